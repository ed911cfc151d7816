/-! THE CLAIM OUT OF ONE WALK OF THE LAW'S BODY. Your part is whole_start (and what it stands on); all else here is the same for every law, but numbers. -/
def R_law : String := "OmenLineLaw"
def lw_P (b : Addr) (xs : List Int32) (args : Array Value) (s : State) : Prop := args = #[.ref b] ∧ s.IntsAt b xs ∧ xs.length ≤ 2560 ∧ (Jvm.Cond.and given_1 narrow_1).before args s = true
def lw_Q (_ : Array Value) (s : State) (o : Outcome) (t : State) : Prop := o = .returned (some (.int 1)) ∧ Framed s o t [] 600000 7302250
def lw_Z (below : List Frame) (a : Array Value) (s : State) : State → Prop := fun t => ∃ o, t.status = .running ∧ Ended t below o ∧ lw_Q a s o t
/-- the law's own end, with 1 on the stack, nothing written that was there before, its room as the claim has it -/
theorem lw_ret {p : Program} {l : Launch} {e : Env} {s : State} {m : MethodId} {below : List Frame} {meth : Method} {c : Code} {b : Nat} (hx : p.tables.exec = Jvm.exec) (hb : c.code = code) (hr : meth.sig.returnType = ret) (hlocks : meth.locks = false) {pc : Nat} {H : Heap} {ls : Array Slot} (hdg : decode code pc = .ok (.ireturn, 1)) : W p l e room_1 s m #[Value.ref b] below meth c H [] 600000 7302250 (lw_Z below #[Value.ref b] s) (F0 m pc ls [.int 1]) := by
  intro T hT X
  obtain ⟨fs, hret, hrun, hended, hW, hframe⟩ := X.leave (v := some (.int 1)) (hlocks := hlocks) (fun h => by rw [hr] at h; cases h)
  have hmeth' : T.vm.method? m = some meth := X.method'
  refine ⟨T.setFrames fs, ?_, .returned (some (.int 1)), hrun, hended, rfl, ⟨_, rfl⟩, hW, hframe⟩
  jvm_step X.here [X.here.top, hx, hb, hdg, hmeth', hr, ret, narrow_b1]
  (try refine ⟨rfl, ?_⟩); (try refine ⟨rfl, ?_⟩)
  first | (intro acts; rw [hret _ acts rfl rfl rfl]) | rw [hret _ _ rfl rfl rfl]
  exact Steps.refl _
/-- what holds at the law's entry: the machine, the code, the tables' words (any of lw_tbl by 'hts w (by decide +kernel)'), the script of L ints xs at the cell b, what the Statement gives of the start (any of its parts by flat_of_before) -/
def lw_At (p : Program) (s : State) (m : MethodId) (meth : Method) (c : Code) (b L : Nat) (xs : Nat → Int32) : Prop :=
  p.tables.exec = Jvm.exec ∧ c.code = code ∧ meth.sig.returnType = ret ∧ c.maxLocals = 4 ∧ s.vm.findClass R_law = some m.cls ∧ (∀ w ∈ lw_tbl, w.before #[Value.ref b] s = true) ∧ va_X b L xs s s.heap ∧ b < s.heap.size ∧ meth.locks = false ∧ (Jvm.Cond.and given_1 narrow_1).before #[Value.ref b] s = true
/-! calls out of the law: a world of its own changes, the other stays -/
section LWC
variable {p : Program} {l : Launch} {e : Env} {R : Room} {s : State} {m : MethodId} {args : Array Value} {below : List Frame} {meth : Method} {c : Code} {H : Heap} {locs : List Loc} {cells slots : Nat} {Q : State → Prop}
variable {D : va_G} {cl : List vw_C} {A B : Nat → Prop} {Wd : MX → va_W} {En : State → Heap → Prop} {cc bytes : ByteArray} {pc : Nat} {ls : Array Slot} {rest : List Value} {z : MX} {b : Nat}
variable {y : MethodName} {maxL nL n index : Nat} {ret : Option FieldType} {ws : List Cond} {rm : Room} {Ts : List Cond} {own C : String} {As st0 : List Value}
theorem law_ci {post : Int32 → MX → Prop} (hG : gE En B) (S : CallFix p m c cc nL s args Ts own) (hM : Met l y ws rm (va_Pc (.ref b :: As) (gB D cl Wd En z)) (va_Qi post (gB D cl Wd En) B) 0 0 B) (cw : CallW R s args own C index y bytes maxL ret ws rm 0 0 n) (hrec : ∃ cell : Cell, H[b]? = some cell ∧ cell.vm.isStatics = false ∧ s.vm.findClass C = some cell.cls) (hE : ∀ U : State, U.heap = H → s.WarmedH U.vm → En U U.heap) (hP : va_P D cl (Wd z) H) (hS : va_S A s.heap H locs) (hBA : ∀ x, B x → A x) (hn : As.length = n) (hsz : ls.size = nL) (hst : st0 = As.reverse ++ .ref b :: rest) (hW : (rest.map fun v => v.category).sum ≤ 8) (hdg : decode cc pc = .ok (.invokevirtual index, 3)) (hf : cells ≤ R.cells ∧ slots ≤ R.slots)
    (kk : ∀ (r : Int32) (z1 : MX) (H1 : Heap) (locs1 : List Loc), post r z1 → va_P D cl (Wd z1) H1 → (∀ x : Nat, x < H.size → ¬ B x → H1[x]? = H[x]?) → va_S A s.heap H1 locs1 → W p l e R s m args below meth c H1 locs1 cells slots Q (F0 m (pc + 3) ls (.int r :: rest))) : W p l e R s m args below meth c H locs cells slots Q (F0 m pc ls st0) :=
  va_calli (va_runV (g := F0 m pc ls st0) (rest := rest) S hM cw ⟨g_blind hG, hrec, fun U hU hW => ⟨rfl, by rw [hU]; exact hP, hE U hU hW⟩⟩ rfl hn hsz hst (lv_room hW) hdg hf) hS (fun x _ h => hBA x h) hBA (fun r u t H1 locs1 ht _ hp hB _ hk hS1 => kk r u H1 locs1 hp (by rw [← ht]; exact hB.1) hk hS1)
theorem law_cl {post : Int64 → MX → Prop} (hG : gE En B) (S : CallFix p m c cc nL s args Ts own) (hM : Met l y ws rm (va_Pc (.ref b :: As) (gB D cl Wd En z)) (va_Ql post (gB D cl Wd En) B) 0 0 B) (cw : CallW R s args own C index y bytes maxL ret ws rm 0 0 n) (hrec : ∃ cell : Cell, H[b]? = some cell ∧ cell.vm.isStatics = false ∧ s.vm.findClass C = some cell.cls) (hE : ∀ U : State, U.heap = H → s.WarmedH U.vm → En U U.heap) (hP : va_P D cl (Wd z) H) (hS : va_S A s.heap H locs) (hBA : ∀ x, B x → A x) (hn : As.length = n) (hsz : ls.size = nL) (hst : st0 = As.reverse ++ .ref b :: rest) (hW : (rest.map fun v => v.category).sum ≤ 8) (hdg : decode cc pc = .ok (.invokevirtual index, 3)) (hf : cells ≤ R.cells ∧ slots ≤ R.slots)
    (kk : ∀ (r : Int64) (z1 : MX) (H1 : Heap) (locs1 : List Loc), post r z1 → va_P D cl (Wd z1) H1 → (∀ x : Nat, x < H.size → ¬ B x → H1[x]? = H[x]?) → va_S A s.heap H1 locs1 → W p l e R s m args below meth c H1 locs1 cells slots Q (F0 m (pc + 3) ls (.long r :: rest))) : W p l e R s m args below meth c H locs cells slots Q (F0 m pc ls st0) :=
  va_calll (va_runV (g := F0 m pc ls st0) (rest := rest) S hM cw ⟨g_blind hG, hrec, fun U hU hW => ⟨rfl, by rw [hU]; exact hP, hE U hU hW⟩⟩ rfl hn hsz hst (lv_room hW) hdg hf) hS (fun x _ h => hBA x h) hBA (fun r u t H1 locs1 ht _ hp hB _ hk hS1 => kk r u H1 locs1 hp (by rw [← ht]; exact hB.1) hk hS1)
theorem law_sld (hx : p.tables.exec = Jvm.exec) (hb : c.code = cc) {L : Nat} {xs : Nat → Int32} (hX : va_X b L xs s s.heap) (hbl : b < s.heap.size) (hbA : ¬ A b) (hS : va_S A s.heap H locs) {d : Nat} (hd : d < L) (hL : L ≤ 2560) (hdg : decode cc pc = .ok (.iaload, 1))
    (kk : W p l e R s m args below meth c H locs cells slots Q (F0 m (pc + 1) ls (.int (xs d) :: rest))) : W p l e R s m args below meth c H locs cells slots Q (F0 m pc ls (.int (nI d) :: .ref b :: rest)) := by
  refine va_sld hx hb hX hbl hbA hS (vp_in_nI hd (by omega)) hdg ?_
  rw [nI_clamp (by omega)]
  exact kk
end LWC
def lAx (ad : Nat → Nat) : Nat → Prop := fun x => ∃ k, k < 42 ∧ x = ad k
def lAm (am : Nat → Nat) : Nat → Prop := fun x => ∃ k, k < 20 ∧ x = am k
/-- what stays through the law -/
def LC (p : Program) (s : State) (m : MethodId) (meth : Method) (c : Code) (b L : Nat) (xs : Nat → Int32) (D : va_G) (q : Nat → ClassId) (ad am : Nat → Nat) (cs ss : Nat) : Prop :=
  L ≤ 2560 ∧ lw_At p s m meth c b L xs ∧ va_K D vwCl (xTy q) s ∧ xE D q ad (fun x => s.heap.size ≤ x) s s.heap ∧ (∀ i j, i < 42 → j < 42 → ad i = ad j → i = j) ∧ (∀ i j, i < 20 → j < 20 → am i = am j → i = j) ∧ (∀ k, k < 42 → s.heap.size ≤ ad k) ∧ (∀ k, k < 20 → s.heap.size ≤ am k) ∧ (∀ i j, i < 42 → j < 20 → ad i ≠ am j) ∧ cs ≤ 600000 ∧ ss ≤ 7302250
/-- the law goes on well at pc, with i in its place -/
def LH (p : Program) (l : Launch) (e : Env) (s : State) (m : MethodId) (below : List Frame) (meth : Method) (c : Code) (b : Nat) (D : va_G) (q : Nat → ClassId) (ad am : Nat → Nat) (cs ss : Nat) (Q : State → Prop) (pc : Nat) (i : Int32) : Prop :=
  ∀ (zx zm : MX) (H : Heap) (locs : List Loc) (ls : Array Slot), Rel zx zm → va_P D vwCl (WX q ad zx) H → va_P D vwCl (WM q am zm) H → va_S (fun x => s.heap.size ≤ x) s.heap H locs → lv_has ls 4 [(3, .int i), (2, .ref (am 0)), (1, .ref (ad 38)), (0, .ref b)] → W p l e room_1 s m #[Value.ref b] below meth c H locs cs ss Q (F0 m pc ls [])
section LWL
variable {p : Program} {l : Launch} {e : Env} {s : State} {m : MethodId} {below : List Frame} {meth : Method} {c : Code} {b L : Nat} {xs : Nat → Int32} {D : va_G} {q : Nat → ClassId} {ad am : Nat → Nat} {cs ss : Nat} {Q : State → Prop}
theorem LC.Dx (C : LC p s m meth c b L xs D q ad am cs ss) (z : MX) : va_D (lAx ad) (WX q ad z) := D_of (WX_ad q ad z) C.2.2.2.2.1
theorem LC.Dm (C : LC p s m meth c b L xs D q ad am cs ss) (z : MX) : va_D (lAm am) (WM q am z) := D_of (WM_ad q am z) C.2.2.2.2.2.1
theorem LC.Ax (C : LC p s m meth c b L xs D q ad am cs ss) (x : Nat) (h : lAx ad x) : s.heap.size ≤ x := by
  obtain ⟨k, hk, rfl⟩ := h
  exact C.2.2.2.2.2.2.1 k hk
theorem LC.Am (C : LC p s m meth c b L xs D q ad am cs ss) (x : Nat) (h : lAm am x) : s.heap.size ≤ x := by
  obtain ⟨k, hk, rfl⟩ := h
  exact C.2.2.2.2.2.2.2.1 k hk
theorem LC.Pm (C : LC p s m meth c b L xs D q ad am cs ss) {z : MX} {H H1 : Heap} (hP : va_P D vwCl (WM q am z) H) (hk : ∀ x : Nat, x < H.size → ¬ lAx ad x → H1[x]? = H[x]?) : va_P D vwCl (WM q am z) H1 := hP.kept (fun k x hx => hk x.1 (hP k x hx).lt (fun ⟨i, hi, e⟩ => by
  obtain ⟨h1, h2⟩ := ad_of (WM_ad q am z) hx
  exact C.2.2.2.2.2.2.2.2.1 i k hi h1 (by rw [← h2]; exact e.symm)))
theorem LC.Px (C : LC p s m meth c b L xs D q ad am cs ss) {z : MX} {H H1 : Heap} (hP : va_P D vwCl (WX q ad z) H) (hk : ∀ x : Nat, x < H.size → ¬ lAm am x → H1[x]? = H[x]?) : va_P D vwCl (WX q ad z) H1 := hP.kept (fun k x hx => hk x.1 (hP k x hx).lt (fun ⟨i, hi, e⟩ => by
  obtain ⟨h1, h2⟩ := ad_of (WX_ad q ad z) hx
  exact C.2.2.2.2.2.2.2.2.1 k i h1 hi (by rw [← h2]; exact e)))
theorem LC.Ex (C : LC p s m meth c b L xs D q ad am cs ss) {H : Heap} {locs : List Loc} (hS : va_S (fun x => s.heap.size ≤ x) s.heap H locs) (U : State) (hU : U.heap = H) (hW : s.WarmedH U.vm) : xE D q ad (lAx ad) U U.heap := xE_narrow (g_now (xE_G D q ad _) C.2.2.2.1 hS hU hW) C.Ax
theorem LC.Em (C : LC p s m meth c b L xs D q ad am cs ss) {H : Heap} {locs : List Loc} (hS : va_S (fun x => s.heap.size ≤ x) s.heap H locs) (U : State) (hU : U.heap = H) (hW : s.WarmedH U.vm) : mE D q U U.heap := g_now (mE_G D q _) ⟨C.2.2.1, trivial⟩ hS hU hW
theorem LC.S (C : LC p s m meth c b L xs D q ad am cs ss) : CallFix p m c code 4 s #[Value.ref b] lw_tbl RL := ⟨C.2.1.1, C.2.1.2.1, C.2.1.2.2.2.1, C.2.1.2.2.2.2.1, C.2.1.2.2.2.2.2.1⟩
set_option maxHeartbeats 4000000 in
set_option maxRecDepth 100000 in
theorem law_0 (C : LC p s m meth c b L xs D q ad am cs ss) {k : Nat} (hk : 5 * k + 5 ≤ L) (nx : LH p l e s m below meth c b D q ad am cs ss Q 1238 (nI (5 * k))) : LH p l e s m below meth c b D q ad am cs ss Q 192 (nI (5 * k)) := by
  intro zx zm H locs ls hR hPx hPm hS hl
  obtain ⟨hx, hb, hr, hml, hown, hts, hX, hbl, hlocks, hgv⟩ := C.2.1
  have hK := C.2.2.1
  have hcs : cs ≤ room_1.cells ∧ ss ≤ room_1.slots := ⟨C.2.2.2.2.2.2.2.2.2.1, C.2.2.2.2.2.2.2.2.2.2⟩
  have hbA : ¬ s.heap.size ≤ b := Nat.not_le.mpr hbl
  have hL := C.1
  refine lv_aload_n hx hb dL_law_192 rfl (lv_at hl 2 rfl) ?_
  refine lv_aload_n hx hb dL_law_193 rfl (lv_at hl 3 rfl) ?_
  refine lv_iload_n hx hb dL_law_194 rfl (lv_at hl 0 rfl) ?_
  refine lv_iconst (v := (1 : Int32)) hx hb dL_law_195 (by decide) ?_
  refine lv_iadd hx hb dL_law_196 ?_
  rw [show nI (5 * k) + (1 : Int32) = nI (5 * k + 1) from nI_add _ 1]
  refine law_sld hx hb hX hbl hbA hS (by omega) C.1 dL_law_197 ?_
  refine law_ci (Wd := WX q ad) (En := xE D q ad (lAx ad)) (z := zx) (As := [.int (xs (5 * k + 1))]) (rest := []) (xE_G D q ad (lAx ad)) C.S (kX7_feed l D q ad (lAx ad) C.Dx zx (xs (5 * k + 1)) _ (q_feed hR (xs (5 * k + 1)))) (cwV 1 hts (cW_V (fun _ h => tG_tbl h) tw_co_X7_feed tw_ml_L_13 tw_im_X7_feed tw_se_X7_feed tw_in_X7) rfl rfl rfl (by decide +kernel) ⟨by decide, by decide⟩) (va_recv hK hPx (ci := 7) (q0 := 38) rfl (wx_38 q ad zx)) (C.Ex hS) hPx hS C.Ax rfl hl.1 rfl (Nat.le_of_ble_eq_true rfl) dL_law_198 hcs (fun r1 zx1 H1 locs1 hp hPx1 hk1 hS1 => ?_)
  have hPm1 := C.Pm hPm hk1
  clear hk1
  have hS := hS1
  refine lv_aload_n hx hb dL_law_201 rfl (lv_at hl 1 rfl) ?_
  refine lv_aload_n hx hb dL_law_202 rfl (lv_at hl 3 rfl) ?_
  refine lv_iload_n hx hb dL_law_203 rfl (lv_at hl 0 rfl) ?_
  refine lv_iconst (v := (1 : Int32)) hx hb dL_law_204 (by decide) ?_
  refine lv_iadd hx hb dL_law_205 ?_
  rw [show nI (5 * k) + (1 : Int32) = nI (5 * k + 1) from nI_add _ 1]
  refine law_sld hx hb hX hbl hbA hS (by omega) C.1 dL_law_206 ?_
  refine law_ci (Wd := WM q am) (En := mE D q) (z := zm) (As := [.int (xs (5 * k + 1))]) (rest := [.int r1]) (mE_G D q (lAm am)) C.S (kX8_feed l D q am (lAm am) C.Dm zm (xs (5 * k + 1)) _ hp) (cwV 1 hts (cW_V (fun _ h => tG_tbl h) tw_co_X8_feed tw_ml_L_17 tw_im_X8_feed tw_se_X8_feed tw_in_X8) rfl rfl rfl (by decide +kernel) ⟨by decide, by decide⟩) (va_recv hK hPm1 (ci := 8) (q0 := 0) rfl (wm_0 q am zm)) (C.Em hS1) hPm1 hS1 C.Am rfl hl.1 rfl (Nat.le_of_ble_eq_true rfl) dL_law_207 hcs (fun r2 zm1 H2 locs2 hp2 hPm2 hk2 hS2 => ?_)
  have hPx2 := C.Px hPx1 hk2
  refine lv_icmp_eq (tgt := 1238) hx hb dL_law_210 (by decide) (fun _ => ?_) (fun w => absurd hp2.1 w)
  exact nx zx1 zm1 H2 locs2 ls hp2.2 hPx2 hPm2 hS2 hl
set_option maxHeartbeats 4000000 in
set_option maxRecDepth 100000 in
theorem law_1 (C : LC p s m meth c b L xs D q ad am cs ss) {k : Nat} (hk : 5 * k + 5 ≤ L) (nx : LH p l e s m below meth c b D q ad am cs ss Q 1238 (nI (5 * k))) : LH p l e s m below meth c b D q ad am cs ss Q 215 (nI (5 * k)) := by
  intro zx zm H locs ls hR hPx hPm hS hl
  obtain ⟨hx, hb, hr, hml, hown, hts, hX, hbl, hlocks, hgv⟩ := C.2.1
  have hK := C.2.2.1
  have hcs : cs ≤ room_1.cells ∧ ss ≤ room_1.slots := ⟨C.2.2.2.2.2.2.2.2.2.1, C.2.2.2.2.2.2.2.2.2.2⟩
  have hbA : ¬ s.heap.size ≤ b := Nat.not_le.mpr hbl
  have hL := C.1
  refine lv_aload_n hx hb dL_law_215 rfl (lv_at hl 2 rfl) ?_
  refine lv_aload_n hx hb dL_law_216 rfl (lv_at hl 3 rfl) ?_
  refine lv_iload_n hx hb dL_law_217 rfl (lv_at hl 0 rfl) ?_
  refine lv_iconst (v := (1 : Int32)) hx hb dL_law_218 (by decide) ?_
  refine lv_iadd hx hb dL_law_219 ?_
  rw [show nI (5 * k) + (1 : Int32) = nI (5 * k + 1) from nI_add _ 1]
  refine law_sld hx hb hX hbl hbA hS (by omega) C.1 dL_law_220 ?_
  refine law_ci (Wd := WX q ad) (En := xE D q ad (lAx ad)) (z := zx) (As := [.int (xs (5 * k + 1))]) (rest := []) (xE_G D q ad (lAx ad)) C.S (kX7_end l D q ad (lAx ad) C.Dx zx (xs (5 * k + 1)) _ (q_end hR (xs (5 * k + 1)))) (cwV 1 hts (cW_V (fun _ h => tG_tbl h) tw_co_X7_end tw_ml_L_18 tw_im_X7_end tw_se_X7_end tw_in_X7) rfl rfl rfl (by decide +kernel) ⟨by decide, by decide⟩) (va_recv hK hPx (ci := 7) (q0 := 38) rfl (wx_38 q ad zx)) (C.Ex hS) hPx hS C.Ax rfl hl.1 rfl (Nat.le_of_ble_eq_true rfl) dL_law_221 hcs (fun r1 zx1 H1 locs1 hp hPx1 hk1 hS1 => ?_)
  have hPm1 := C.Pm hPm hk1
  clear hk1
  have hS := hS1
  refine lv_aload_n hx hb dL_law_224 rfl (lv_at hl 1 rfl) ?_
  refine lv_aload_n hx hb dL_law_225 rfl (lv_at hl 3 rfl) ?_
  refine lv_iload_n hx hb dL_law_226 rfl (lv_at hl 0 rfl) ?_
  refine lv_iconst (v := (1 : Int32)) hx hb dL_law_227 (by decide) ?_
  refine lv_iadd hx hb dL_law_228 ?_
  rw [show nI (5 * k) + (1 : Int32) = nI (5 * k + 1) from nI_add _ 1]
  refine law_sld hx hb hX hbl hbA hS (by omega) C.1 dL_law_229 ?_
  refine law_ci (Wd := WM q am) (En := mE D q) (z := zm) (As := [.int (xs (5 * k + 1))]) (rest := [.int r1]) (mE_G D q (lAm am)) C.S (kX8_end l D q am (lAm am) C.Dm zm (xs (5 * k + 1)) _ hp) (cwV 1 hts (cW_V (fun _ h => tG_tbl h) tw_co_X8_end tw_ml_L_21 tw_im_X8_end tw_se_X8_end tw_in_X8) rfl rfl rfl (by decide +kernel) ⟨by decide, by decide⟩) (va_recv hK hPm1 (ci := 8) (q0 := 0) rfl (wm_0 q am zm)) (C.Em hS1) hPm1 hS1 C.Am rfl hl.1 rfl (Nat.le_of_ble_eq_true rfl) dL_law_230 hcs (fun r2 zm1 H2 locs2 hp2 hPm2 hk2 hS2 => ?_)
  have hPx2 := C.Px hPx1 hk2
  refine lv_icmp_eq (tgt := 1238) hx hb dL_law_233 (by decide) (fun _ => ?_) (fun w => absurd hp2.1 w)
  exact nx zx1 zm1 H2 locs2 ls hp2.2 hPx2 hPm2 hS2 hl
set_option maxHeartbeats 4000000 in
set_option maxRecDepth 100000 in
theorem law_2 (C : LC p s m meth c b L xs D q ad am cs ss) {k : Nat} (hk : 5 * k + 5 ≤ L) (nx : LH p l e s m below meth c b D q ad am cs ss Q 1238 (nI (5 * k))) : LH p l e s m below meth c b D q ad am cs ss Q 238 (nI (5 * k)) := by
  intro zx zm H locs ls hR hPx hPm hS hl
  obtain ⟨hx, hb, hr, hml, hown, hts, hX, hbl, hlocks, hgv⟩ := C.2.1
  have hK := C.2.2.1
  have hcs : cs ≤ room_1.cells ∧ ss ≤ room_1.slots := ⟨C.2.2.2.2.2.2.2.2.2.1, C.2.2.2.2.2.2.2.2.2.2⟩
  have hbA : ¬ s.heap.size ≤ b := Nat.not_le.mpr hbl
  have hL := C.1
  refine lv_aload_n hx hb dL_law_238 rfl (lv_at hl 2 rfl) ?_
  refine law_ci (Wd := WX q ad) (En := xE D q ad (lAx ad)) (z := zx) (As := []) (rest := []) (xE_G D q ad (lAx ad)) C.S (kX7_text l D q ad (lAx ad) C.Dx zx _ (q_text hR)) (cwV 0 hts (cW_V (fun _ h => tG_tbl h) tw_co_X7_text tw_ml_L_22 tw_im_X7_text tw_se_X7_text tw_in_X7) rfl rfl rfl (by decide +kernel) ⟨by decide, by decide⟩) (va_recv hK hPx (ci := 7) (q0 := 38) rfl (wx_38 q ad zx)) (C.Ex hS) hPx hS C.Ax rfl hl.1 rfl (Nat.le_of_ble_eq_true rfl) dL_law_239 hcs (fun r1 zx1 H1 locs1 hp hPx1 hk1 hS1 => ?_)
  have hPm1 := C.Pm hPm hk1
  clear hk1
  have hS := hS1
  refine lv_aload_n hx hb dL_law_242 rfl (lv_at hl 1 rfl) ?_
  refine law_ci (Wd := WM q am) (En := mE D q) (z := zm) (As := []) (rest := [.int r1]) (mE_G D q (lAm am)) C.S (kX8_text l D q am (lAm am) C.Dm zm _ hp) (cwV 0 hts (cW_V (fun _ h => tG_tbl h) tw_co_X8_text tw_ml_L_26 tw_im_X8_text tw_se_X8_text tw_in_X8) rfl rfl rfl (by decide +kernel) ⟨by decide, by decide⟩) (va_recv hK hPm1 (ci := 8) (q0 := 0) rfl (wm_0 q am zm)) (C.Em hS1) hPm1 hS1 C.Am rfl hl.1 rfl (Nat.le_of_ble_eq_true rfl) dL_law_243 hcs (fun r2 zm1 H2 locs2 hp2 hPm2 hk2 hS2 => ?_)
  have hPx2 := C.Px hPx1 hk2
  refine lv_icmp_eq (tgt := 1238) hx hb dL_law_246 (by decide) (fun _ => ?_) (fun w => absurd hp2.1 w)
  exact nx zx1 zm1 H2 locs2 ls hp2.2 hPx2 hPm2 hS2 hl
set_option maxHeartbeats 4000000 in
set_option maxRecDepth 100000 in
theorem law_3 (C : LC p s m meth c b L xs D q ad am cs ss) {k : Nat} (hk : 5 * k + 5 ≤ L) (nx : LH p l e s m below meth c b D q ad am cs ss Q 1238 (nI (5 * k))) : LH p l e s m below meth c b D q ad am cs ss Q 251 (nI (5 * k)) := by
  intro zx zm H locs ls hR hPx hPm hS hl
  obtain ⟨hx, hb, hr, hml, hown, hts, hX, hbl, hlocks, hgv⟩ := C.2.1
  have hK := C.2.2.1
  have hcs : cs ≤ room_1.cells ∧ ss ≤ room_1.slots := ⟨C.2.2.2.2.2.2.2.2.2.1, C.2.2.2.2.2.2.2.2.2.2⟩
  have hbA : ¬ s.heap.size ≤ b := Nat.not_le.mpr hbl
  have hL := C.1
  refine lv_aload_n hx hb dL_law_251 rfl (lv_at hl 2 rfl) ?_
  refine law_ci (Wd := WX q ad) (En := xE D q ad (lAx ad)) (z := zx) (As := []) (rest := []) (xE_G D q ad (lAx ad)) C.S (kX7_fault l D q ad (lAx ad) C.Dx zx _ (q_fault hR)) (cwV 0 hts (cW_V (fun _ h => tG_tbl h) tw_co_X7_fault tw_ml_L_27 tw_im_X7_fault tw_se_X7_fault tw_in_X7) rfl rfl rfl (by decide +kernel) ⟨by decide, by decide⟩) (va_recv hK hPx (ci := 7) (q0 := 38) rfl (wx_38 q ad zx)) (C.Ex hS) hPx hS C.Ax rfl hl.1 rfl (Nat.le_of_ble_eq_true rfl) dL_law_252 hcs (fun r1 zx1 H1 locs1 hp hPx1 hk1 hS1 => ?_)
  have hPm1 := C.Pm hPm hk1
  clear hk1
  have hS := hS1
  refine lv_aload_n hx hb dL_law_255 rfl (lv_at hl 1 rfl) ?_
  refine law_ci (Wd := WM q am) (En := mE D q) (z := zm) (As := []) (rest := [.int r1]) (mE_G D q (lAm am)) C.S (kX8_fault l D q am (lAm am) C.Dm zm _ hp) (cwV 0 hts (cW_V (fun _ h => tG_tbl h) tw_co_X8_fault tw_ml_L_30 tw_im_X8_fault tw_se_X8_fault tw_in_X8) rfl rfl rfl (by decide +kernel) ⟨by decide, by decide⟩) (va_recv hK hPm1 (ci := 8) (q0 := 0) rfl (wm_0 q am zm)) (C.Em hS1) hPm1 hS1 C.Am rfl hl.1 rfl (Nat.le_of_ble_eq_true rfl) dL_law_256 hcs (fun r2 zm1 H2 locs2 hp2 hPm2 hk2 hS2 => ?_)
  have hPx2 := C.Px hPx1 hk2
  refine lv_icmp_eq (tgt := 1238) hx hb dL_law_259 (by decide) (fun _ => ?_) (fun w => absurd hp2.1 w)
  exact nx zx1 zm1 H2 locs2 ls hp2.2 hPx2 hPm2 hS2 hl
set_option maxHeartbeats 4000000 in
set_option maxRecDepth 100000 in
theorem law_4 (C : LC p s m meth c b L xs D q ad am cs ss) {k : Nat} (hk : 5 * k + 5 ≤ L) (nx : LH p l e s m below meth c b D q ad am cs ss Q 1238 (nI (5 * k))) : LH p l e s m below meth c b D q ad am cs ss Q 264 (nI (5 * k)) := by
  intro zx zm H locs ls hR hPx hPm hS hl
  obtain ⟨hx, hb, hr, hml, hown, hts, hX, hbl, hlocks, hgv⟩ := C.2.1
  have hK := C.2.2.1
  have hcs : cs ≤ room_1.cells ∧ ss ≤ room_1.slots := ⟨C.2.2.2.2.2.2.2.2.2.1, C.2.2.2.2.2.2.2.2.2.2⟩
  have hbA : ¬ s.heap.size ≤ b := Nat.not_le.mpr hbl
  have hL := C.1
  refine lv_aload_n hx hb dL_law_264 rfl (lv_at hl 2 rfl) ?_
  refine lv_aload_n hx hb dL_law_265 rfl (lv_at hl 3 rfl) ?_
  refine lv_iload_n hx hb dL_law_266 rfl (lv_at hl 0 rfl) ?_
  refine lv_iconst (v := (1 : Int32)) hx hb dL_law_267 (by decide) ?_
  refine lv_iadd hx hb dL_law_268 ?_
  rw [show nI (5 * k) + (1 : Int32) = nI (5 * k + 1) from nI_add _ 1]
  refine law_sld hx hb hX hbl hbA hS (by omega) C.1 dL_law_269 ?_
  refine law_ci (Wd := WX q ad) (En := xE D q ad (lAx ad)) (z := zx) (As := [.int (xs (5 * k + 1))]) (rest := []) (xE_G D q ad (lAx ad)) C.S (kX7_rule l D q ad (lAx ad) C.Dx zx (xs (5 * k + 1)) _ (q_rule hR (xs (5 * k + 1)))) (cwV 1 hts (cW_V (fun _ h => tG_tbl h) tw_co_X7_rule tw_ml_L_31 tw_im_X7_rule tw_se_X7_rule tw_in_X7) rfl rfl rfl (by decide +kernel) ⟨by decide, by decide⟩) (va_recv hK hPx (ci := 7) (q0 := 38) rfl (wx_38 q ad zx)) (C.Ex hS) hPx hS C.Ax rfl hl.1 rfl (Nat.le_of_ble_eq_true rfl) dL_law_270 hcs (fun r1 zx1 H1 locs1 hp hPx1 hk1 hS1 => ?_)
  have hPm1 := C.Pm hPm hk1
  clear hk1
  have hS := hS1
  refine lv_aload_n hx hb dL_law_273 rfl (lv_at hl 1 rfl) ?_
  refine lv_aload_n hx hb dL_law_274 rfl (lv_at hl 3 rfl) ?_
  refine lv_iload_n hx hb dL_law_275 rfl (lv_at hl 0 rfl) ?_
  refine lv_iconst (v := (1 : Int32)) hx hb dL_law_276 (by decide) ?_
  refine lv_iadd hx hb dL_law_277 ?_
  rw [show nI (5 * k) + (1 : Int32) = nI (5 * k + 1) from nI_add _ 1]
  refine law_sld hx hb hX hbl hbA hS (by omega) C.1 dL_law_278 ?_
  refine law_ci (Wd := WM q am) (En := mE D q) (z := zm) (As := [.int (xs (5 * k + 1))]) (rest := [.int r1]) (mE_G D q (lAm am)) C.S (kX8_rule l D q am (lAm am) C.Dm zm (xs (5 * k + 1)) _ hp) (cwV 1 hts (cW_V (fun _ h => tG_tbl h) tw_co_X8_rule tw_ml_L_34 tw_im_X8_rule tw_se_X8_rule tw_in_X8) rfl rfl rfl (by decide +kernel) ⟨by decide, by decide⟩) (va_recv hK hPm1 (ci := 8) (q0 := 0) rfl (wm_0 q am zm)) (C.Em hS1) hPm1 hS1 C.Am rfl hl.1 rfl (Nat.le_of_ble_eq_true rfl) dL_law_279 hcs (fun r2 zm1 H2 locs2 hp2 hPm2 hk2 hS2 => ?_)
  have hPx2 := C.Px hPx1 hk2
  refine lv_icmp_eq (tgt := 1238) hx hb dL_law_282 (by decide) (fun _ => ?_) (fun w => absurd hp2.1 w)
  exact nx zx1 zm1 H2 locs2 ls hp2.2 hPx2 hPm2 hS2 hl
set_option maxHeartbeats 4000000 in
set_option maxRecDepth 100000 in
theorem law_5 (C : LC p s m meth c b L xs D q ad am cs ss) {k : Nat} (hk : 5 * k + 5 ≤ L) (nx : LH p l e s m below meth c b D q ad am cs ss Q 1238 (nI (5 * k))) : LH p l e s m below meth c b D q ad am cs ss Q 287 (nI (5 * k)) := by
  intro zx zm H locs ls hR hPx hPm hS hl
  obtain ⟨hx, hb, hr, hml, hown, hts, hX, hbl, hlocks, hgv⟩ := C.2.1
  have hK := C.2.2.1
  have hcs : cs ≤ room_1.cells ∧ ss ≤ room_1.slots := ⟨C.2.2.2.2.2.2.2.2.2.1, C.2.2.2.2.2.2.2.2.2.2⟩
  have hbA : ¬ s.heap.size ≤ b := Nat.not_le.mpr hbl
  have hL := C.1
  refine lv_aload_n hx hb dL_law_287 rfl (lv_at hl 2 rfl) ?_
  refine lv_aload_n hx hb dL_law_288 rfl (lv_at hl 3 rfl) ?_
  refine lv_iload_n hx hb dL_law_289 rfl (lv_at hl 0 rfl) ?_
  refine lv_iconst (v := (1 : Int32)) hx hb dL_law_290 (by decide) ?_
  refine lv_iadd hx hb dL_law_291 ?_
  rw [show nI (5 * k) + (1 : Int32) = nI (5 * k + 1) from nI_add _ 1]
  refine law_sld hx hb hX hbl hbA hS (by omega) C.1 dL_law_292 ?_
  refine lv_aload_n hx hb dL_law_293 rfl (lv_at hl 3 rfl) ?_
  refine lv_iload_n hx hb dL_law_294 rfl (lv_at hl 0 rfl) ?_
  refine lv_iconst (v := (2 : Int32)) hx hb dL_law_295 (by decide) ?_
  refine lv_iadd hx hb dL_law_296 ?_
  rw [show nI (5 * k) + (2 : Int32) = nI (5 * k + 2) from nI_add _ 2]
  refine law_sld hx hb hX hbl hbA hS (by omega) C.1 dL_law_297 ?_
  refine law_ci (Wd := WX q ad) (En := xE D q ad (lAx ad)) (z := zx) (As := [.int (xs (5 * k + 1)), .int (xs (5 * k + 2))]) (rest := []) (xE_G D q ad (lAx ad)) C.S (kX7_block l D q ad (lAx ad) C.Dx zx (xs (5 * k + 1)) (xs (5 * k + 2)) _ (q_block hR (xs (5 * k + 1)) (xs (5 * k + 2)))) (cwV 2 hts (cW_V (fun _ h => tG_tbl h) tw_co_X7_block tw_ml_L_35 tw_im_X7_block tw_se_X7_block tw_in_X7) rfl rfl rfl (by decide +kernel) ⟨by decide, by decide⟩) (va_recv hK hPx (ci := 7) (q0 := 38) rfl (wx_38 q ad zx)) (C.Ex hS) hPx hS C.Ax rfl hl.1 rfl (Nat.le_of_ble_eq_true rfl) dL_law_298 hcs (fun r1 zx1 H1 locs1 hp hPx1 hk1 hS1 => ?_)
  have hPm1 := C.Pm hPm hk1
  clear hk1
  have hS := hS1
  refine lv_aload_n hx hb dL_law_301 rfl (lv_at hl 1 rfl) ?_
  refine lv_aload_n hx hb dL_law_302 rfl (lv_at hl 3 rfl) ?_
  refine lv_iload_n hx hb dL_law_303 rfl (lv_at hl 0 rfl) ?_
  refine lv_iconst (v := (1 : Int32)) hx hb dL_law_304 (by decide) ?_
  refine lv_iadd hx hb dL_law_305 ?_
  rw [show nI (5 * k) + (1 : Int32) = nI (5 * k + 1) from nI_add _ 1]
  refine law_sld hx hb hX hbl hbA hS (by omega) C.1 dL_law_306 ?_
  refine lv_aload_n hx hb dL_law_307 rfl (lv_at hl 3 rfl) ?_
  refine lv_iload_n hx hb dL_law_308 rfl (lv_at hl 0 rfl) ?_
  refine lv_iconst (v := (2 : Int32)) hx hb dL_law_309 (by decide) ?_
  refine lv_iadd hx hb dL_law_310 ?_
  rw [show nI (5 * k) + (2 : Int32) = nI (5 * k + 2) from nI_add _ 2]
  refine law_sld hx hb hX hbl hbA hS (by omega) C.1 dL_law_311 ?_
  refine law_ci (Wd := WM q am) (En := mE D q) (z := zm) (As := [.int (xs (5 * k + 1)), .int (xs (5 * k + 2))]) (rest := [.int r1]) (mE_G D q (lAm am)) C.S (kX8_block l D q am (lAm am) C.Dm zm (xs (5 * k + 1)) (xs (5 * k + 2)) _ hp) (cwV 2 hts (cW_V (fun _ h => tG_tbl h) tw_co_X8_block tw_ml_L_39 tw_im_X8_block tw_se_X8_block tw_in_X8) rfl rfl rfl (by decide +kernel) ⟨by decide, by decide⟩) (va_recv hK hPm1 (ci := 8) (q0 := 0) rfl (wm_0 q am zm)) (C.Em hS1) hPm1 hS1 C.Am rfl hl.1 rfl (Nat.le_of_ble_eq_true rfl) dL_law_312 hcs (fun r2 zm1 H2 locs2 hp2 hPm2 hk2 hS2 => ?_)
  have hPx2 := C.Px hPx1 hk2
  refine lv_icmp_eq (tgt := 1238) hx hb dL_law_315 (by decide) (fun _ => ?_) (fun w => absurd hp2.1 w)
  exact nx zx1 zm1 H2 locs2 ls hp2.2 hPx2 hPm2 hS2 hl
set_option maxHeartbeats 4000000 in
set_option maxRecDepth 100000 in
theorem law_6 (C : LC p s m meth c b L xs D q ad am cs ss) {k : Nat} (hk : 5 * k + 5 ≤ L) (nx : LH p l e s m below meth c b D q ad am cs ss Q 1238 (nI (5 * k))) : LH p l e s m below meth c b D q ad am cs ss Q 320 (nI (5 * k)) := by
  intro zx zm H locs ls hR hPx hPm hS hl
  obtain ⟨hx, hb, hr, hml, hown, hts, hX, hbl, hlocks, hgv⟩ := C.2.1
  have hK := C.2.2.1
  have hcs : cs ≤ room_1.cells ∧ ss ≤ room_1.slots := ⟨C.2.2.2.2.2.2.2.2.2.1, C.2.2.2.2.2.2.2.2.2.2⟩
  have hbA : ¬ s.heap.size ≤ b := Nat.not_le.mpr hbl
  have hL := C.1
  refine lv_aload_n hx hb dL_law_320 rfl (lv_at hl 2 rfl) ?_
  refine lv_aload_n hx hb dL_law_321 rfl (lv_at hl 3 rfl) ?_
  refine lv_iload_n hx hb dL_law_322 rfl (lv_at hl 0 rfl) ?_
  refine lv_iconst (v := (1 : Int32)) hx hb dL_law_323 (by decide) ?_
  refine lv_iadd hx hb dL_law_324 ?_
  rw [show nI (5 * k) + (1 : Int32) = nI (5 * k + 1) from nI_add _ 1]
  refine law_sld hx hb hX hbl hbA hS (by omega) C.1 dL_law_325 ?_
  refine lv_aload_n hx hb dL_law_326 rfl (lv_at hl 3 rfl) ?_
  refine lv_iload_n hx hb dL_law_327 rfl (lv_at hl 0 rfl) ?_
  refine lv_iconst (v := (2 : Int32)) hx hb dL_law_328 (by decide) ?_
  refine lv_iadd hx hb dL_law_329 ?_
  rw [show nI (5 * k) + (2 : Int32) = nI (5 * k + 2) from nI_add _ 2]
  refine law_sld hx hb hX hbl hbA hS (by omega) C.1 dL_law_330 ?_
  refine law_ci (Wd := WX q ad) (En := xE D q ad (lAx ad)) (z := zx) (As := [.int (xs (5 * k + 1)), .int (xs (5 * k + 2))]) (rest := []) (xE_G D q ad (lAx ad)) C.S (kX7_lock l D q ad (lAx ad) C.Dx zx (xs (5 * k + 1)) (xs (5 * k + 2)) _ (q_lock hR (xs (5 * k + 1)) (xs (5 * k + 2)))) (cwV 2 hts (cW_V (fun _ h => tG_tbl h) tw_co_X7_lock tw_ml_L_40 tw_im_X7_lock tw_se_X7_lock tw_in_X7) rfl rfl rfl (by decide +kernel) ⟨by decide, by decide⟩) (va_recv hK hPx (ci := 7) (q0 := 38) rfl (wx_38 q ad zx)) (C.Ex hS) hPx hS C.Ax rfl hl.1 rfl (Nat.le_of_ble_eq_true rfl) dL_law_331 hcs (fun r1 zx1 H1 locs1 hp hPx1 hk1 hS1 => ?_)
  have hPm1 := C.Pm hPm hk1
  clear hk1
  have hS := hS1
  refine lv_aload_n hx hb dL_law_334 rfl (lv_at hl 1 rfl) ?_
  refine lv_aload_n hx hb dL_law_335 rfl (lv_at hl 3 rfl) ?_
  refine lv_iload_n hx hb dL_law_336 rfl (lv_at hl 0 rfl) ?_
  refine lv_iconst (v := (1 : Int32)) hx hb dL_law_337 (by decide) ?_
  refine lv_iadd hx hb dL_law_338 ?_
  rw [show nI (5 * k) + (1 : Int32) = nI (5 * k + 1) from nI_add _ 1]
  refine law_sld hx hb hX hbl hbA hS (by omega) C.1 dL_law_339 ?_
  refine lv_aload_n hx hb dL_law_340 rfl (lv_at hl 3 rfl) ?_
  refine lv_iload_n hx hb dL_law_341 rfl (lv_at hl 0 rfl) ?_
  refine lv_iconst (v := (2 : Int32)) hx hb dL_law_342 (by decide) ?_
  refine lv_iadd hx hb dL_law_343 ?_
  rw [show nI (5 * k) + (2 : Int32) = nI (5 * k + 2) from nI_add _ 2]
  refine law_sld hx hb hX hbl hbA hS (by omega) C.1 dL_law_344 ?_
  refine law_ci (Wd := WM q am) (En := mE D q) (z := zm) (As := [.int (xs (5 * k + 1)), .int (xs (5 * k + 2))]) (rest := [.int r1]) (mE_G D q (lAm am)) C.S (kX8_lock l D q am (lAm am) C.Dm zm (xs (5 * k + 1)) (xs (5 * k + 2)) _ hp) (cwV 2 hts (cW_V (fun _ h => tG_tbl h) tw_co_X8_lock tw_ml_L_43 tw_im_X8_lock tw_se_X8_lock tw_in_X8) rfl rfl rfl (by decide +kernel) ⟨by decide, by decide⟩) (va_recv hK hPm1 (ci := 8) (q0 := 0) rfl (wm_0 q am zm)) (C.Em hS1) hPm1 hS1 C.Am rfl hl.1 rfl (Nat.le_of_ble_eq_true rfl) dL_law_345 hcs (fun r2 zm1 H2 locs2 hp2 hPm2 hk2 hS2 => ?_)
  have hPx2 := C.Px hPx1 hk2
  refine lv_icmp_eq (tgt := 1238) hx hb dL_law_348 (by decide) (fun _ => ?_) (fun w => absurd hp2.1 w)
  exact nx zx1 zm1 H2 locs2 ls hp2.2 hPx2 hPm2 hS2 hl
set_option maxHeartbeats 4000000 in
set_option maxRecDepth 100000 in
theorem law_7 (C : LC p s m meth c b L xs D q ad am cs ss) {k : Nat} (hk : 5 * k + 5 ≤ L) (nx : LH p l e s m below meth c b D q ad am cs ss Q 1238 (nI (5 * k))) : LH p l e s m below meth c b D q ad am cs ss Q 353 (nI (5 * k)) := by
  intro zx zm H locs ls hR hPx hPm hS hl
  obtain ⟨hx, hb, hr, hml, hown, hts, hX, hbl, hlocks, hgv⟩ := C.2.1
  have hK := C.2.2.1
  have hcs : cs ≤ room_1.cells ∧ ss ≤ room_1.slots := ⟨C.2.2.2.2.2.2.2.2.2.1, C.2.2.2.2.2.2.2.2.2.2⟩
  have hbA : ¬ s.heap.size ≤ b := Nat.not_le.mpr hbl
  have hL := C.1
  refine lv_aload_n hx hb dL_law_353 rfl (lv_at hl 2 rfl) ?_
  refine lv_aload_n hx hb dL_law_354 rfl (lv_at hl 3 rfl) ?_
  refine lv_iload_n hx hb dL_law_355 rfl (lv_at hl 0 rfl) ?_
  refine lv_iconst (v := (1 : Int32)) hx hb dL_law_356 (by decide) ?_
  refine lv_iadd hx hb dL_law_357 ?_
  rw [show nI (5 * k) + (1 : Int32) = nI (5 * k + 1) from nI_add _ 1]
  refine law_sld hx hb hX hbl hbA hS (by omega) C.1 dL_law_358 ?_
  refine lv_aload_n hx hb dL_law_359 rfl (lv_at hl 3 rfl) ?_
  refine lv_iload_n hx hb dL_law_360 rfl (lv_at hl 0 rfl) ?_
  refine lv_iconst (v := (2 : Int32)) hx hb dL_law_361 (by decide) ?_
  refine lv_iadd hx hb dL_law_362 ?_
  rw [show nI (5 * k) + (2 : Int32) = nI (5 * k + 2) from nI_add _ 2]
  refine law_sld hx hb hX hbl hbA hS (by omega) C.1 dL_law_363 ?_
  refine law_ci (Wd := WX q ad) (En := xE D q ad (lAx ad)) (z := zx) (As := [.int (xs (5 * k + 1)), .int (xs (5 * k + 2))]) (rest := []) (xE_G D q ad (lAx ad)) C.S (kX7_train l D q ad (lAx ad) C.Dx zx (xs (5 * k + 1)) (xs (5 * k + 2)) _ (q_train hR (xs (5 * k + 1)) (xs (5 * k + 2)))) (cwV 2 hts (cW_V (fun _ h => tG_tbl h) tw_co_X7_train tw_ml_L_44 tw_im_X7_train tw_se_X7_train tw_in_X7) rfl rfl rfl (by decide +kernel) ⟨by decide, by decide⟩) (va_recv hK hPx (ci := 7) (q0 := 38) rfl (wx_38 q ad zx)) (C.Ex hS) hPx hS C.Ax rfl hl.1 rfl (Nat.le_of_ble_eq_true rfl) dL_law_364 hcs (fun r1 zx1 H1 locs1 hp hPx1 hk1 hS1 => ?_)
  have hPm1 := C.Pm hPm hk1
  clear hk1
  have hS := hS1
  refine lv_aload_n hx hb dL_law_367 rfl (lv_at hl 1 rfl) ?_
  refine lv_aload_n hx hb dL_law_368 rfl (lv_at hl 3 rfl) ?_
  refine lv_iload_n hx hb dL_law_369 rfl (lv_at hl 0 rfl) ?_
  refine lv_iconst (v := (1 : Int32)) hx hb dL_law_370 (by decide) ?_
  refine lv_iadd hx hb dL_law_371 ?_
  rw [show nI (5 * k) + (1 : Int32) = nI (5 * k + 1) from nI_add _ 1]
  refine law_sld hx hb hX hbl hbA hS (by omega) C.1 dL_law_372 ?_
  refine lv_aload_n hx hb dL_law_373 rfl (lv_at hl 3 rfl) ?_
  refine lv_iload_n hx hb dL_law_374 rfl (lv_at hl 0 rfl) ?_
  refine lv_iconst (v := (2 : Int32)) hx hb dL_law_375 (by decide) ?_
  refine lv_iadd hx hb dL_law_376 ?_
  rw [show nI (5 * k) + (2 : Int32) = nI (5 * k + 2) from nI_add _ 2]
  refine law_sld hx hb hX hbl hbA hS (by omega) C.1 dL_law_377 ?_
  refine law_ci (Wd := WM q am) (En := mE D q) (z := zm) (As := [.int (xs (5 * k + 1)), .int (xs (5 * k + 2))]) (rest := [.int r1]) (mE_G D q (lAm am)) C.S (kX8_train l D q am (lAm am) C.Dm zm (xs (5 * k + 1)) (xs (5 * k + 2)) _ hp) (cwV 2 hts (cW_V (fun _ h => tG_tbl h) tw_co_X8_train tw_ml_L_47 tw_im_X8_train tw_se_X8_train tw_in_X8) rfl rfl rfl (by decide +kernel) ⟨by decide, by decide⟩) (va_recv hK hPm1 (ci := 8) (q0 := 0) rfl (wm_0 q am zm)) (C.Em hS1) hPm1 hS1 C.Am rfl hl.1 rfl (Nat.le_of_ble_eq_true rfl) dL_law_378 hcs (fun r2 zm1 H2 locs2 hp2 hPm2 hk2 hS2 => ?_)
  have hPx2 := C.Px hPx1 hk2
  refine lv_icmp_eq (tgt := 1238) hx hb dL_law_381 (by decide) (fun _ => ?_) (fun w => absurd hp2.1 w)
  exact nx zx1 zm1 H2 locs2 ls hp2.2 hPx2 hPm2 hS2 hl
set_option maxHeartbeats 4000000 in
set_option maxRecDepth 100000 in
theorem law_8 (C : LC p s m meth c b L xs D q ad am cs ss) {k : Nat} (hk : 5 * k + 5 ≤ L) (nx : LH p l e s m below meth c b D q ad am cs ss Q 1238 (nI (5 * k))) : LH p l e s m below meth c b D q ad am cs ss Q 386 (nI (5 * k)) := by
  intro zx zm H locs ls hR hPx hPm hS hl
  obtain ⟨hx, hb, hr, hml, hown, hts, hX, hbl, hlocks, hgv⟩ := C.2.1
  have hK := C.2.2.1
  have hcs : cs ≤ room_1.cells ∧ ss ≤ room_1.slots := ⟨C.2.2.2.2.2.2.2.2.2.1, C.2.2.2.2.2.2.2.2.2.2⟩
  have hbA : ¬ s.heap.size ≤ b := Nat.not_le.mpr hbl
  have hL := C.1
  refine lv_aload_n hx hb dL_law_386 rfl (lv_at hl 2 rfl) ?_
  refine lv_aload_n hx hb dL_law_387 rfl (lv_at hl 3 rfl) ?_
  refine lv_iload_n hx hb dL_law_388 rfl (lv_at hl 0 rfl) ?_
  refine lv_iconst (v := (1 : Int32)) hx hb dL_law_389 (by decide) ?_
  refine lv_iadd hx hb dL_law_390 ?_
  rw [show nI (5 * k) + (1 : Int32) = nI (5 * k + 1) from nI_add _ 1]
  refine law_sld hx hb hX hbl hbA hS (by omega) C.1 dL_law_391 ?_
  refine lv_aload_n hx hb dL_law_392 rfl (lv_at hl 3 rfl) ?_
  refine lv_iload_n hx hb dL_law_393 rfl (lv_at hl 0 rfl) ?_
  refine lv_iconst (v := (2 : Int32)) hx hb dL_law_394 (by decide) ?_
  refine lv_iadd hx hb dL_law_395 ?_
  rw [show nI (5 * k) + (2 : Int32) = nI (5 * k + 2) from nI_add _ 2]
  refine law_sld hx hb hX hbl hbA hS (by omega) C.1 dL_law_396 ?_
  refine law_ci (Wd := WX q ad) (En := xE D q ad (lAx ad)) (z := zx) (As := [.int (xs (5 * k + 1)), .int (xs (5 * k + 2))]) (rest := []) (xE_G D q ad (lAx ad)) C.S (kX7_waits l D q ad (lAx ad) C.Dx zx (xs (5 * k + 1)) (xs (5 * k + 2)) _ (q_waits hR (xs (5 * k + 1)) (xs (5 * k + 2)))) (cwV 2 hts (cW_V (fun _ h => tG_tbl h) tw_co_X7_waits tw_ml_L_48 tw_im_X7_waits tw_se_X7_waits tw_in_X7) rfl rfl rfl (by decide +kernel) ⟨by decide, by decide⟩) (va_recv hK hPx (ci := 7) (q0 := 38) rfl (wx_38 q ad zx)) (C.Ex hS) hPx hS C.Ax rfl hl.1 rfl (Nat.le_of_ble_eq_true rfl) dL_law_397 hcs (fun r1 zx1 H1 locs1 hp hPx1 hk1 hS1 => ?_)
  have hPm1 := C.Pm hPm hk1
  clear hk1
  have hS := hS1
  refine lv_aload_n hx hb dL_law_400 rfl (lv_at hl 1 rfl) ?_
  refine lv_aload_n hx hb dL_law_401 rfl (lv_at hl 3 rfl) ?_
  refine lv_iload_n hx hb dL_law_402 rfl (lv_at hl 0 rfl) ?_
  refine lv_iconst (v := (1 : Int32)) hx hb dL_law_403 (by decide) ?_
  refine lv_iadd hx hb dL_law_404 ?_
  rw [show nI (5 * k) + (1 : Int32) = nI (5 * k + 1) from nI_add _ 1]
  refine law_sld hx hb hX hbl hbA hS (by omega) C.1 dL_law_405 ?_
  refine lv_aload_n hx hb dL_law_406 rfl (lv_at hl 3 rfl) ?_
  refine lv_iload_n hx hb dL_law_407 rfl (lv_at hl 0 rfl) ?_
  refine lv_iconst (v := (2 : Int32)) hx hb dL_law_408 (by decide) ?_
  refine lv_iadd hx hb dL_law_409 ?_
  rw [show nI (5 * k) + (2 : Int32) = nI (5 * k + 2) from nI_add _ 2]
  refine law_sld hx hb hX hbl hbA hS (by omega) C.1 dL_law_410 ?_
  refine law_ci (Wd := WM q am) (En := mE D q) (z := zm) (As := [.int (xs (5 * k + 1)), .int (xs (5 * k + 2))]) (rest := [.int r1]) (mE_G D q (lAm am)) C.S (kX8_waits l D q am (lAm am) C.Dm zm (xs (5 * k + 1)) (xs (5 * k + 2)) _ hp) (cwV 2 hts (cW_V (fun _ h => tG_tbl h) tw_co_X8_waits tw_ml_L_51 tw_im_X8_waits tw_se_X8_waits tw_in_X8) rfl rfl rfl (by decide +kernel) ⟨by decide, by decide⟩) (va_recv hK hPm1 (ci := 8) (q0 := 0) rfl (wm_0 q am zm)) (C.Em hS1) hPm1 hS1 C.Am rfl hl.1 rfl (Nat.le_of_ble_eq_true rfl) dL_law_411 hcs (fun r2 zm1 H2 locs2 hp2 hPm2 hk2 hS2 => ?_)
  have hPx2 := C.Px hPx1 hk2
  refine lv_icmp_eq (tgt := 1238) hx hb dL_law_414 (by decide) (fun _ => ?_) (fun w => absurd hp2.1 w)
  exact nx zx1 zm1 H2 locs2 ls hp2.2 hPx2 hPm2 hS2 hl
set_option maxHeartbeats 4000000 in
set_option maxRecDepth 100000 in
theorem law_9 (C : LC p s m meth c b L xs D q ad am cs ss) {k : Nat} (hk : 5 * k + 5 ≤ L) (nx : LH p l e s m below meth c b D q ad am cs ss Q 1238 (nI (5 * k))) : LH p l e s m below meth c b D q ad am cs ss Q 419 (nI (5 * k)) := by
  intro zx zm H locs ls hR hPx hPm hS hl
  obtain ⟨hx, hb, hr, hml, hown, hts, hX, hbl, hlocks, hgv⟩ := C.2.1
  have hK := C.2.2.1
  have hcs : cs ≤ room_1.cells ∧ ss ≤ room_1.slots := ⟨C.2.2.2.2.2.2.2.2.2.1, C.2.2.2.2.2.2.2.2.2.2⟩
  have hbA : ¬ s.heap.size ≤ b := Nat.not_le.mpr hbl
  have hL := C.1
  refine lv_aload_n hx hb dL_law_419 rfl (lv_at hl 2 rfl) ?_
  refine lv_aload_n hx hb dL_law_420 rfl (lv_at hl 3 rfl) ?_
  refine lv_iload_n hx hb dL_law_421 rfl (lv_at hl 0 rfl) ?_
  refine lv_iconst (v := (1 : Int32)) hx hb dL_law_422 (by decide) ?_
  refine lv_iadd hx hb dL_law_423 ?_
  rw [show nI (5 * k) + (1 : Int32) = nI (5 * k + 1) from nI_add _ 1]
  refine law_sld hx hb hX hbl hbA hS (by omega) C.1 dL_law_424 ?_
  refine lv_aload_n hx hb dL_law_425 rfl (lv_at hl 3 rfl) ?_
  refine lv_iload_n hx hb dL_law_426 rfl (lv_at hl 0 rfl) ?_
  refine lv_iconst (v := (2 : Int32)) hx hb dL_law_427 (by decide) ?_
  refine lv_iadd hx hb dL_law_428 ?_
  rw [show nI (5 * k) + (2 : Int32) = nI (5 * k + 2) from nI_add _ 2]
  refine law_sld hx hb hX hbl hbA hS (by omega) C.1 dL_law_429 ?_
  refine law_ci (Wd := WX q ad) (En := xE D q ad (lAx ad)) (z := zx) (As := [.int (xs (5 * k + 1)), .int (xs (5 * k + 2))]) (rest := []) (xE_G D q ad (lAx ad)) C.S (kX7_hang l D q ad (lAx ad) C.Dx zx (xs (5 * k + 1)) (xs (5 * k + 2)) _ (q_hang hR (xs (5 * k + 1)) (xs (5 * k + 2)))) (cwV 2 hts (cW_V (fun _ h => tG_tbl h) tw_co_X7_hang tw_ml_L_52 tw_im_X7_hang tw_se_X7_hang tw_in_X7) rfl rfl rfl (by decide +kernel) ⟨by decide, by decide⟩) (va_recv hK hPx (ci := 7) (q0 := 38) rfl (wx_38 q ad zx)) (C.Ex hS) hPx hS C.Ax rfl hl.1 rfl (Nat.le_of_ble_eq_true rfl) dL_law_430 hcs (fun r1 zx1 H1 locs1 hp hPx1 hk1 hS1 => ?_)
  have hPm1 := C.Pm hPm hk1
  clear hk1
  have hS := hS1
  refine lv_aload_n hx hb dL_law_433 rfl (lv_at hl 1 rfl) ?_
  refine lv_aload_n hx hb dL_law_434 rfl (lv_at hl 3 rfl) ?_
  refine lv_iload_n hx hb dL_law_435 rfl (lv_at hl 0 rfl) ?_
  refine lv_iconst (v := (1 : Int32)) hx hb dL_law_436 (by decide) ?_
  refine lv_iadd hx hb dL_law_437 ?_
  rw [show nI (5 * k) + (1 : Int32) = nI (5 * k + 1) from nI_add _ 1]
  refine law_sld hx hb hX hbl hbA hS (by omega) C.1 dL_law_438 ?_
  refine lv_aload_n hx hb dL_law_439 rfl (lv_at hl 3 rfl) ?_
  refine lv_iload_n hx hb dL_law_440 rfl (lv_at hl 0 rfl) ?_
  refine lv_iconst (v := (2 : Int32)) hx hb dL_law_441 (by decide) ?_
  refine lv_iadd hx hb dL_law_442 ?_
  rw [show nI (5 * k) + (2 : Int32) = nI (5 * k + 2) from nI_add _ 2]
  refine law_sld hx hb hX hbl hbA hS (by omega) C.1 dL_law_443 ?_
  refine law_ci (Wd := WM q am) (En := mE D q) (z := zm) (As := [.int (xs (5 * k + 1)), .int (xs (5 * k + 2))]) (rest := [.int r1]) (mE_G D q (lAm am)) C.S (kX8_hang l D q am (lAm am) C.Dm zm (xs (5 * k + 1)) (xs (5 * k + 2)) _ hp) (cwV 2 hts (cW_V (fun _ h => tG_tbl h) tw_co_X8_hang tw_ml_L_55 tw_im_X8_hang tw_se_X8_hang tw_in_X8) rfl rfl rfl (by decide +kernel) ⟨by decide, by decide⟩) (va_recv hK hPm1 (ci := 8) (q0 := 0) rfl (wm_0 q am zm)) (C.Em hS1) hPm1 hS1 C.Am rfl hl.1 rfl (Nat.le_of_ble_eq_true rfl) dL_law_444 hcs (fun r2 zm1 H2 locs2 hp2 hPm2 hk2 hS2 => ?_)
  have hPx2 := C.Px hPx1 hk2
  refine lv_icmp_eq (tgt := 1238) hx hb dL_law_447 (by decide) (fun _ => ?_) (fun w => absurd hp2.1 w)
  exact nx zx1 zm1 H2 locs2 ls hp2.2 hPx2 hPm2 hS2 hl
set_option maxHeartbeats 4000000 in
set_option maxRecDepth 100000 in
theorem law_10 (C : LC p s m meth c b L xs D q ad am cs ss) {k : Nat} (hk : 5 * k + 5 ≤ L) (nx : LH p l e s m below meth c b D q ad am cs ss Q 1238 (nI (5 * k))) : LH p l e s m below meth c b D q ad am cs ss Q 452 (nI (5 * k)) := by
  intro zx zm H locs ls hR hPx hPm hS hl
  obtain ⟨hx, hb, hr, hml, hown, hts, hX, hbl, hlocks, hgv⟩ := C.2.1
  have hK := C.2.2.1
  have hcs : cs ≤ room_1.cells ∧ ss ≤ room_1.slots := ⟨C.2.2.2.2.2.2.2.2.2.1, C.2.2.2.2.2.2.2.2.2.2⟩
  have hbA : ¬ s.heap.size ≤ b := Nat.not_le.mpr hbl
  have hL := C.1
  by_cases hz : xs (5 * k + 2) = 0
  · refine lv_aload_n hx hb dL_law_452 rfl (lv_at hl 2 rfl) ?_
    refine lv_aload_n hx hb dL_law_453 rfl (lv_at hl 3 rfl) ?_
    refine lv_iload_n hx hb dL_law_454 rfl (lv_at hl 0 rfl) ?_
    refine lv_iconst (v := (1 : Int32)) hx hb dL_law_455 (by decide) ?_
    refine lv_iadd hx hb dL_law_456 ?_
    rw [show nI (5 * k) + (1 : Int32) = nI (5 * k + 1) from nI_add _ 1]
    refine law_sld hx hb hX hbl hbA hS (by omega) C.1 dL_law_457 ?_
    refine lv_aload_n hx hb dL_law_458 rfl (lv_at hl 3 rfl) ?_
    refine lv_iload_n hx hb dL_law_459 rfl (lv_at hl 0 rfl) ?_
    refine lv_iconst (v := (2 : Int32)) hx hb dL_law_460 (by decide) ?_
    refine lv_iadd hx hb dL_law_461 ?_
    rw [show nI (5 * k) + (2 : Int32) = nI (5 * k + 2) from nI_add _ 2]
    refine law_sld hx hb hX hbl hbA hS (by omega) C.1 dL_law_462 ?_
    refine lv_if_eq (tgt := 470) hx hb dL_law_463 (by decide) (fun _ => ?_) (fun w => absurd hz w)
    refine lv_iconst (v := (0 : Int32)) hx hb dL_law_470 (by decide) ?_
    refine law_ci (Wd := WX q ad) (En := xE D q ad (lAx ad)) (z := zx) (As := [.int (xs (5 * k + 1)), .int (0 : Int32)]) (rest := []) (xE_G D q ad (lAx ad)) C.S (kX7_guard l D q ad (lAx ad) C.Dx zx (xs (5 * k + 1)) (0 : Int32) _ (q_guard hR (xs (5 * k + 1)) (0 : Int32))) (cwV 2 hts (cW_V (fun _ h => tG_tbl h) tw_co_X7_guard tw_ml_L_56 tw_im_X7_guard tw_se_X7_guard tw_in_X7) rfl rfl rfl (by decide +kernel) ⟨by decide, by decide⟩) (va_recv hK hPx (ci := 7) (q0 := 38) rfl (wx_38 q ad zx)) (C.Ex hS) hPx hS C.Ax rfl hl.1 rfl (Nat.le_of_ble_eq_true rfl) dL_law_471 hcs (fun r1 zx1 H1 locs1 hp hPx1 hk1 hS1 => ?_)
    have hPm1 := C.Pm hPm hk1
    clear hk1
    have hS := hS1
    refine lv_aload_n hx hb dL_law_474 rfl (lv_at hl 1 rfl) ?_
    refine lv_aload_n hx hb dL_law_475 rfl (lv_at hl 3 rfl) ?_
    refine lv_iload_n hx hb dL_law_476 rfl (lv_at hl 0 rfl) ?_
    refine lv_iconst (v := (1 : Int32)) hx hb dL_law_477 (by decide) ?_
    refine lv_iadd hx hb dL_law_478 ?_
    rw [show nI (5 * k) + (1 : Int32) = nI (5 * k + 1) from nI_add _ 1]
    refine law_sld hx hb hX hbl hbA hS (by omega) C.1 dL_law_479 ?_
    refine lv_aload_n hx hb dL_law_480 rfl (lv_at hl 3 rfl) ?_
    refine lv_iload_n hx hb dL_law_481 rfl (lv_at hl 0 rfl) ?_
    refine lv_iconst (v := (2 : Int32)) hx hb dL_law_482 (by decide) ?_
    refine lv_iadd hx hb dL_law_483 ?_
    rw [show nI (5 * k) + (2 : Int32) = nI (5 * k + 2) from nI_add _ 2]
    refine law_sld hx hb hX hbl hbA hS (by omega) C.1 dL_law_484 ?_
    refine lv_if_eq (tgt := 492) hx hb dL_law_485 (by decide) (fun _ => ?_) (fun w => absurd hz w)
    refine lv_iconst (v := (0 : Int32)) hx hb dL_law_492 (by decide) ?_
    refine law_ci (Wd := WM q am) (En := mE D q) (z := zm) (As := [.int (xs (5 * k + 1)), .int (0 : Int32)]) (rest := [.int r1]) (mE_G D q (lAm am)) C.S (kX8_guard l D q am (lAm am) C.Dm zm (xs (5 * k + 1)) (0 : Int32) _ hp) (cwV 2 hts (cW_V (fun _ h => tG_tbl h) tw_co_X8_guard tw_ml_L_60 tw_im_X8_guard tw_se_X8_guard tw_in_X8) rfl rfl rfl (by decide +kernel) ⟨by decide, by decide⟩) (va_recv hK hPm1 (ci := 8) (q0 := 0) rfl (wm_0 q am zm)) (C.Em hS1) hPm1 hS1 C.Am rfl hl.1 rfl (Nat.le_of_ble_eq_true rfl) dL_law_493 hcs (fun r2 zm1 H2 locs2 hp2 hPm2 hk2 hS2 => ?_)
    have hPx2 := C.Px hPx1 hk2
    refine lv_icmp_eq (tgt := 1238) hx hb dL_law_496 (by decide) (fun _ => ?_) (fun w => absurd hp2.1 w)
    exact nx zx1 zm1 H2 locs2 ls hp2.2 hPx2 hPm2 hS2 hl
  · refine lv_aload_n hx hb dL_law_452 rfl (lv_at hl 2 rfl) ?_
    refine lv_aload_n hx hb dL_law_453 rfl (lv_at hl 3 rfl) ?_
    refine lv_iload_n hx hb dL_law_454 rfl (lv_at hl 0 rfl) ?_
    refine lv_iconst (v := (1 : Int32)) hx hb dL_law_455 (by decide) ?_
    refine lv_iadd hx hb dL_law_456 ?_
    rw [show nI (5 * k) + (1 : Int32) = nI (5 * k + 1) from nI_add _ 1]
    refine law_sld hx hb hX hbl hbA hS (by omega) C.1 dL_law_457 ?_
    refine lv_aload_n hx hb dL_law_458 rfl (lv_at hl 3 rfl) ?_
    refine lv_iload_n hx hb dL_law_459 rfl (lv_at hl 0 rfl) ?_
    refine lv_iconst (v := (2 : Int32)) hx hb dL_law_460 (by decide) ?_
    refine lv_iadd hx hb dL_law_461 ?_
    rw [show nI (5 * k) + (2 : Int32) = nI (5 * k + 2) from nI_add _ 2]
    refine law_sld hx hb hX hbl hbA hS (by omega) C.1 dL_law_462 ?_
    refine lv_if_eq (tgt := 470) hx hb dL_law_463 (by decide) (fun w => absurd w hz) (fun _ => ?_)
    refine lv_iconst (v := (1 : Int32)) hx hb dL_law_466 (by decide) ?_
    refine lv_goto (tgt := 471) hx hb dL_law_467 (by decide) ?_
    refine law_ci (Wd := WX q ad) (En := xE D q ad (lAx ad)) (z := zx) (As := [.int (xs (5 * k + 1)), .int (1 : Int32)]) (rest := []) (xE_G D q ad (lAx ad)) C.S (kX7_guard l D q ad (lAx ad) C.Dx zx (xs (5 * k + 1)) (1 : Int32) _ (q_guard hR (xs (5 * k + 1)) (1 : Int32))) (cwV 2 hts (cW_V (fun _ h => tG_tbl h) tw_co_X7_guard tw_ml_L_56 tw_im_X7_guard tw_se_X7_guard tw_in_X7) rfl rfl rfl (by decide +kernel) ⟨by decide, by decide⟩) (va_recv hK hPx (ci := 7) (q0 := 38) rfl (wx_38 q ad zx)) (C.Ex hS) hPx hS C.Ax rfl hl.1 rfl (Nat.le_of_ble_eq_true rfl) dL_law_471 hcs (fun r1 zx1 H1 locs1 hp hPx1 hk1 hS1 => ?_)
    have hPm1 := C.Pm hPm hk1
    clear hk1
    have hS := hS1
    refine lv_aload_n hx hb dL_law_474 rfl (lv_at hl 1 rfl) ?_
    refine lv_aload_n hx hb dL_law_475 rfl (lv_at hl 3 rfl) ?_
    refine lv_iload_n hx hb dL_law_476 rfl (lv_at hl 0 rfl) ?_
    refine lv_iconst (v := (1 : Int32)) hx hb dL_law_477 (by decide) ?_
    refine lv_iadd hx hb dL_law_478 ?_
    rw [show nI (5 * k) + (1 : Int32) = nI (5 * k + 1) from nI_add _ 1]
    refine law_sld hx hb hX hbl hbA hS (by omega) C.1 dL_law_479 ?_
    refine lv_aload_n hx hb dL_law_480 rfl (lv_at hl 3 rfl) ?_
    refine lv_iload_n hx hb dL_law_481 rfl (lv_at hl 0 rfl) ?_
    refine lv_iconst (v := (2 : Int32)) hx hb dL_law_482 (by decide) ?_
    refine lv_iadd hx hb dL_law_483 ?_
    rw [show nI (5 * k) + (2 : Int32) = nI (5 * k + 2) from nI_add _ 2]
    refine law_sld hx hb hX hbl hbA hS (by omega) C.1 dL_law_484 ?_
    refine lv_if_eq (tgt := 492) hx hb dL_law_485 (by decide) (fun w => absurd w hz) (fun _ => ?_)
    refine lv_iconst (v := (1 : Int32)) hx hb dL_law_488 (by decide) ?_
    refine lv_goto (tgt := 493) hx hb dL_law_489 (by decide) ?_
    refine law_ci (Wd := WM q am) (En := mE D q) (z := zm) (As := [.int (xs (5 * k + 1)), .int (1 : Int32)]) (rest := [.int r1]) (mE_G D q (lAm am)) C.S (kX8_guard l D q am (lAm am) C.Dm zm (xs (5 * k + 1)) (1 : Int32) _ hp) (cwV 2 hts (cW_V (fun _ h => tG_tbl h) tw_co_X8_guard tw_ml_L_60 tw_im_X8_guard tw_se_X8_guard tw_in_X8) rfl rfl rfl (by decide +kernel) ⟨by decide, by decide⟩) (va_recv hK hPm1 (ci := 8) (q0 := 0) rfl (wm_0 q am zm)) (C.Em hS1) hPm1 hS1 C.Am rfl hl.1 rfl (Nat.le_of_ble_eq_true rfl) dL_law_493 hcs (fun r2 zm1 H2 locs2 hp2 hPm2 hk2 hS2 => ?_)
    have hPx2 := C.Px hPx1 hk2
    refine lv_icmp_eq (tgt := 1238) hx hb dL_law_496 (by decide) (fun _ => ?_) (fun w => absurd hp2.1 w)
    exact nx zx1 zm1 H2 locs2 ls hp2.2 hPx2 hPm2 hS2 hl
set_option maxHeartbeats 4000000 in
set_option maxRecDepth 100000 in
theorem law_11 (C : LC p s m meth c b L xs D q ad am cs ss) {k : Nat} (hk : 5 * k + 5 ≤ L) (nx : LH p l e s m below meth c b D q ad am cs ss Q 1238 (nI (5 * k))) : LH p l e s m below meth c b D q ad am cs ss Q 501 (nI (5 * k)) := by
  intro zx zm H locs ls hR hPx hPm hS hl
  obtain ⟨hx, hb, hr, hml, hown, hts, hX, hbl, hlocks, hgv⟩ := C.2.1
  have hK := C.2.2.1
  have hcs : cs ≤ room_1.cells ∧ ss ≤ room_1.slots := ⟨C.2.2.2.2.2.2.2.2.2.1, C.2.2.2.2.2.2.2.2.2.2⟩
  have hbA : ¬ s.heap.size ≤ b := Nat.not_le.mpr hbl
  have hL := C.1
  refine lv_aload_n hx hb dL_law_501 rfl (lv_at hl 2 rfl) ?_
  refine lv_aload_n hx hb dL_law_502 rfl (lv_at hl 3 rfl) ?_
  refine lv_iload_n hx hb dL_law_503 rfl (lv_at hl 0 rfl) ?_
  refine lv_iconst (v := (1 : Int32)) hx hb dL_law_504 (by decide) ?_
  refine lv_iadd hx hb dL_law_505 ?_
  rw [show nI (5 * k) + (1 : Int32) = nI (5 * k + 1) from nI_add _ 1]
  refine law_sld hx hb hX hbl hbA hS (by omega) C.1 dL_law_506 ?_
  refine lv_aload_n hx hb dL_law_507 rfl (lv_at hl 3 rfl) ?_
  refine lv_iload_n hx hb dL_law_508 rfl (lv_at hl 0 rfl) ?_
  refine lv_iconst (v := (2 : Int32)) hx hb dL_law_509 (by decide) ?_
  refine lv_iadd hx hb dL_law_510 ?_
  rw [show nI (5 * k) + (2 : Int32) = nI (5 * k + 2) from nI_add _ 2]
  refine law_sld hx hb hX hbl hbA hS (by omega) C.1 dL_law_511 ?_
  refine lv_aload_n hx hb dL_law_512 rfl (lv_at hl 3 rfl) ?_
  refine lv_iload_n hx hb dL_law_513 rfl (lv_at hl 0 rfl) ?_
  refine lv_iconst (v := (3 : Int32)) hx hb dL_law_514 (by decide) ?_
  refine lv_iadd hx hb dL_law_515 ?_
  rw [show nI (5 * k) + (3 : Int32) = nI (5 * k + 3) from nI_add _ 3]
  refine law_sld hx hb hX hbl hbA hS (by omega) C.1 dL_law_516 ?_
  refine law_ci (Wd := WX q ad) (En := xE D q ad (lAx ad)) (z := zx) (As := [.int (xs (5 * k + 1)), .int (xs (5 * k + 2)), .int (xs (5 * k + 3))]) (rest := []) (xE_G D q ad (lAx ad)) C.S (kX7_set l D q ad (lAx ad) C.Dx zx (xs (5 * k + 1)) (xs (5 * k + 2)) (xs (5 * k + 3)) _ (q_set hR (xs (5 * k + 1)) (xs (5 * k + 2)) (xs (5 * k + 3)))) (cwV 3 hts (cW_V (fun _ h => tG_tbl h) tw_co_X7_set tw_ml_L_61 tw_im_X7_set tw_se_X7_set tw_in_X7) rfl rfl rfl (by decide +kernel) ⟨by decide, by decide⟩) (va_recv hK hPx (ci := 7) (q0 := 38) rfl (wx_38 q ad zx)) (C.Ex hS) hPx hS C.Ax rfl hl.1 rfl (Nat.le_of_ble_eq_true rfl) dL_law_517 hcs (fun r1 zx1 H1 locs1 hp hPx1 hk1 hS1 => ?_)
  have hPm1 := C.Pm hPm hk1
  clear hk1
  have hS := hS1
  refine lv_aload_n hx hb dL_law_520 rfl (lv_at hl 1 rfl) ?_
  refine lv_aload_n hx hb dL_law_521 rfl (lv_at hl 3 rfl) ?_
  refine lv_iload_n hx hb dL_law_522 rfl (lv_at hl 0 rfl) ?_
  refine lv_iconst (v := (1 : Int32)) hx hb dL_law_523 (by decide) ?_
  refine lv_iadd hx hb dL_law_524 ?_
  rw [show nI (5 * k) + (1 : Int32) = nI (5 * k + 1) from nI_add _ 1]
  refine law_sld hx hb hX hbl hbA hS (by omega) C.1 dL_law_525 ?_
  refine lv_aload_n hx hb dL_law_526 rfl (lv_at hl 3 rfl) ?_
  refine lv_iload_n hx hb dL_law_527 rfl (lv_at hl 0 rfl) ?_
  refine lv_iconst (v := (2 : Int32)) hx hb dL_law_528 (by decide) ?_
  refine lv_iadd hx hb dL_law_529 ?_
  rw [show nI (5 * k) + (2 : Int32) = nI (5 * k + 2) from nI_add _ 2]
  refine law_sld hx hb hX hbl hbA hS (by omega) C.1 dL_law_530 ?_
  refine lv_aload_n hx hb dL_law_531 rfl (lv_at hl 3 rfl) ?_
  refine lv_iload_n hx hb dL_law_532 rfl (lv_at hl 0 rfl) ?_
  refine lv_iconst (v := (3 : Int32)) hx hb dL_law_533 (by decide) ?_
  refine lv_iadd hx hb dL_law_534 ?_
  rw [show nI (5 * k) + (3 : Int32) = nI (5 * k + 3) from nI_add _ 3]
  refine law_sld hx hb hX hbl hbA hS (by omega) C.1 dL_law_535 ?_
  refine law_ci (Wd := WM q am) (En := mE D q) (z := zm) (As := [.int (xs (5 * k + 1)), .int (xs (5 * k + 2)), .int (xs (5 * k + 3))]) (rest := [.int r1]) (mE_G D q (lAm am)) C.S (kX8_set l D q am (lAm am) C.Dm zm (xs (5 * k + 1)) (xs (5 * k + 2)) (xs (5 * k + 3)) _ hp) (cwV 3 hts (cW_V (fun _ h => tG_tbl h) tw_co_X8_set tw_ml_L_65 tw_im_X8_set tw_se_X8_set tw_in_X8) rfl rfl rfl (by decide +kernel) ⟨by decide, by decide⟩) (va_recv hK hPm1 (ci := 8) (q0 := 0) rfl (wm_0 q am zm)) (C.Em hS1) hPm1 hS1 C.Am rfl hl.1 rfl (Nat.le_of_ble_eq_true rfl) dL_law_536 hcs (fun r2 zm1 H2 locs2 hp2 hPm2 hk2 hS2 => ?_)
  have hPx2 := C.Px hPx1 hk2
  refine lv_icmp_eq (tgt := 1238) hx hb dL_law_539 (by decide) (fun _ => ?_) (fun w => absurd hp2.1 w)
  exact nx zx1 zm1 H2 locs2 ls hp2.2 hPx2 hPm2 hS2 hl
set_option maxHeartbeats 4000000 in
set_option maxRecDepth 100000 in
theorem law_12 (C : LC p s m meth c b L xs D q ad am cs ss) {k : Nat} (hk : 5 * k + 5 ≤ L) (nx : LH p l e s m below meth c b D q ad am cs ss Q 1238 (nI (5 * k))) : LH p l e s m below meth c b D q ad am cs ss Q 544 (nI (5 * k)) := by
  intro zx zm H locs ls hR hPx hPm hS hl
  obtain ⟨hx, hb, hr, hml, hown, hts, hX, hbl, hlocks, hgv⟩ := C.2.1
  have hK := C.2.2.1
  have hcs : cs ≤ room_1.cells ∧ ss ≤ room_1.slots := ⟨C.2.2.2.2.2.2.2.2.2.1, C.2.2.2.2.2.2.2.2.2.2⟩
  have hbA : ¬ s.heap.size ≤ b := Nat.not_le.mpr hbl
  have hL := C.1
  refine lv_aload_n hx hb dL_law_544 rfl (lv_at hl 2 rfl) ?_
  refine lv_aload_n hx hb dL_law_545 rfl (lv_at hl 3 rfl) ?_
  refine lv_iload_n hx hb dL_law_546 rfl (lv_at hl 0 rfl) ?_
  refine lv_iconst (v := (1 : Int32)) hx hb dL_law_547 (by decide) ?_
  refine lv_iadd hx hb dL_law_548 ?_
  rw [show nI (5 * k) + (1 : Int32) = nI (5 * k + 1) from nI_add _ 1]
  refine law_sld hx hb hX hbl hbA hS (by omega) C.1 dL_law_549 ?_
  refine law_ci (Wd := WX q ad) (En := xE D q ad (lAx ad)) (z := zx) (As := [.int (xs (5 * k + 1))]) (rest := []) (xE_G D q ad (lAx ad)) C.S (kX7_home l D q ad (lAx ad) C.Dx zx (xs (5 * k + 1)) _ (q_home hR (xs (5 * k + 1)))) (cwV 1 hts (cW_V (fun _ h => tG_tbl h) tw_co_X7_home tw_ml_L_66 tw_im_X7_home tw_se_X7_home tw_in_X7) rfl rfl rfl (by decide +kernel) ⟨by decide, by decide⟩) (va_recv hK hPx (ci := 7) (q0 := 38) rfl (wx_38 q ad zx)) (C.Ex hS) hPx hS C.Ax rfl hl.1 rfl (Nat.le_of_ble_eq_true rfl) dL_law_550 hcs (fun r1 zx1 H1 locs1 hp hPx1 hk1 hS1 => ?_)
  have hPm1 := C.Pm hPm hk1
  clear hk1
  have hS := hS1
  refine lv_aload_n hx hb dL_law_553 rfl (lv_at hl 1 rfl) ?_
  refine lv_aload_n hx hb dL_law_554 rfl (lv_at hl 3 rfl) ?_
  refine lv_iload_n hx hb dL_law_555 rfl (lv_at hl 0 rfl) ?_
  refine lv_iconst (v := (1 : Int32)) hx hb dL_law_556 (by decide) ?_
  refine lv_iadd hx hb dL_law_557 ?_
  rw [show nI (5 * k) + (1 : Int32) = nI (5 * k + 1) from nI_add _ 1]
  refine law_sld hx hb hX hbl hbA hS (by omega) C.1 dL_law_558 ?_
  refine law_ci (Wd := WM q am) (En := mE D q) (z := zm) (As := [.int (xs (5 * k + 1))]) (rest := [.int r1]) (mE_G D q (lAm am)) C.S (kX8_home l D q am (lAm am) C.Dm zm (xs (5 * k + 1)) _ hp) (cwV 1 hts (cW_V (fun _ h => tG_tbl h) tw_co_X8_home tw_ml_L_69 tw_im_X8_home tw_se_X8_home tw_in_X8) rfl rfl rfl (by decide +kernel) ⟨by decide, by decide⟩) (va_recv hK hPm1 (ci := 8) (q0 := 0) rfl (wm_0 q am zm)) (C.Em hS1) hPm1 hS1 C.Am rfl hl.1 rfl (Nat.le_of_ble_eq_true rfl) dL_law_559 hcs (fun r2 zm1 H2 locs2 hp2 hPm2 hk2 hS2 => ?_)
  have hPx2 := C.Px hPx1 hk2
  refine lv_icmp_eq (tgt := 1238) hx hb dL_law_562 (by decide) (fun _ => ?_) (fun w => absurd hp2.1 w)
  exact nx zx1 zm1 H2 locs2 ls hp2.2 hPx2 hPm2 hS2 hl
set_option maxHeartbeats 4000000 in
set_option maxRecDepth 100000 in
theorem law_13 (C : LC p s m meth c b L xs D q ad am cs ss) {k : Nat} (hk : 5 * k + 5 ≤ L) (nx : LH p l e s m below meth c b D q ad am cs ss Q 1238 (nI (5 * k))) : LH p l e s m below meth c b D q ad am cs ss Q 567 (nI (5 * k)) := by
  intro zx zm H locs ls hR hPx hPm hS hl
  obtain ⟨hx, hb, hr, hml, hown, hts, hX, hbl, hlocks, hgv⟩ := C.2.1
  have hK := C.2.2.1
  have hcs : cs ≤ room_1.cells ∧ ss ≤ room_1.slots := ⟨C.2.2.2.2.2.2.2.2.2.1, C.2.2.2.2.2.2.2.2.2.2⟩
  have hbA : ¬ s.heap.size ≤ b := Nat.not_le.mpr hbl
  have hL := C.1
  refine lv_aload_n hx hb dL_law_567 rfl (lv_at hl 2 rfl) ?_
  refine lv_aload_n hx hb dL_law_568 rfl (lv_at hl 3 rfl) ?_
  refine lv_iload_n hx hb dL_law_569 rfl (lv_at hl 0 rfl) ?_
  refine lv_iconst (v := (1 : Int32)) hx hb dL_law_570 (by decide) ?_
  refine lv_iadd hx hb dL_law_571 ?_
  rw [show nI (5 * k) + (1 : Int32) = nI (5 * k + 1) from nI_add _ 1]
  refine law_sld hx hb hX hbl hbA hS (by omega) C.1 dL_law_572 ?_
  refine lv_aload_n hx hb dL_law_573 rfl (lv_at hl 3 rfl) ?_
  refine lv_iload_n hx hb dL_law_574 rfl (lv_at hl 0 rfl) ?_
  refine lv_iconst (v := (2 : Int32)) hx hb dL_law_575 (by decide) ?_
  refine lv_iadd hx hb dL_law_576 ?_
  rw [show nI (5 * k) + (2 : Int32) = nI (5 * k + 2) from nI_add _ 2]
  refine law_sld hx hb hX hbl hbA hS (by omega) C.1 dL_law_577 ?_
  refine law_ci (Wd := WX q ad) (En := xE D q ad (lAx ad)) (z := zx) (As := [.int (xs (5 * k + 1)), .int (xs (5 * k + 2))]) (rest := []) (xE_G D q ad (lAx ad)) C.S (kX7_at l D q ad (lAx ad) C.Dx zx (xs (5 * k + 1)) (xs (5 * k + 2)) _ (q_at hR (xs (5 * k + 1)) (xs (5 * k + 2)))) (cwV 2 hts (cW_V (fun _ h => tG_tbl h) tw_co_X7_at tw_ml_L_70 tw_im_X7_at tw_se_X7_at tw_in_X7) rfl rfl rfl (by decide +kernel) ⟨by decide, by decide⟩) (va_recv hK hPx (ci := 7) (q0 := 38) rfl (wx_38 q ad zx)) (C.Ex hS) hPx hS C.Ax rfl hl.1 rfl (Nat.le_of_ble_eq_true rfl) dL_law_578 hcs (fun r1 zx1 H1 locs1 hp hPx1 hk1 hS1 => ?_)
  have hPm1 := C.Pm hPm hk1
  clear hk1
  have hS := hS1
  refine lv_aload_n hx hb dL_law_581 rfl (lv_at hl 1 rfl) ?_
  refine lv_aload_n hx hb dL_law_582 rfl (lv_at hl 3 rfl) ?_
  refine lv_iload_n hx hb dL_law_583 rfl (lv_at hl 0 rfl) ?_
  refine lv_iconst (v := (1 : Int32)) hx hb dL_law_584 (by decide) ?_
  refine lv_iadd hx hb dL_law_585 ?_
  rw [show nI (5 * k) + (1 : Int32) = nI (5 * k + 1) from nI_add _ 1]
  refine law_sld hx hb hX hbl hbA hS (by omega) C.1 dL_law_586 ?_
  refine lv_aload_n hx hb dL_law_587 rfl (lv_at hl 3 rfl) ?_
  refine lv_iload_n hx hb dL_law_588 rfl (lv_at hl 0 rfl) ?_
  refine lv_iconst (v := (2 : Int32)) hx hb dL_law_589 (by decide) ?_
  refine lv_iadd hx hb dL_law_590 ?_
  rw [show nI (5 * k) + (2 : Int32) = nI (5 * k + 2) from nI_add _ 2]
  refine law_sld hx hb hX hbl hbA hS (by omega) C.1 dL_law_591 ?_
  refine law_ci (Wd := WM q am) (En := mE D q) (z := zm) (As := [.int (xs (5 * k + 1)), .int (xs (5 * k + 2))]) (rest := [.int r1]) (mE_G D q (lAm am)) C.S (kX8_at l D q am (lAm am) C.Dm zm (xs (5 * k + 1)) (xs (5 * k + 2)) _ hp) (cwV 2 hts (cW_V (fun _ h => tG_tbl h) tw_co_X8_at tw_ml_L_73 tw_im_X8_at tw_se_X8_at tw_in_X8) rfl rfl rfl (by decide +kernel) ⟨by decide, by decide⟩) (va_recv hK hPm1 (ci := 8) (q0 := 0) rfl (wm_0 q am zm)) (C.Em hS1) hPm1 hS1 C.Am rfl hl.1 rfl (Nat.le_of_ble_eq_true rfl) dL_law_592 hcs (fun r2 zm1 H2 locs2 hp2 hPm2 hk2 hS2 => ?_)
  have hPx2 := C.Px hPx1 hk2
  refine lv_icmp_eq (tgt := 1238) hx hb dL_law_595 (by decide) (fun _ => ?_) (fun w => absurd hp2.1 w)
  exact nx zx1 zm1 H2 locs2 ls hp2.2 hPx2 hPm2 hS2 hl
set_option maxHeartbeats 4000000 in
set_option maxRecDepth 100000 in
theorem law_14 (C : LC p s m meth c b L xs D q ad am cs ss) {k : Nat} (hk : 5 * k + 5 ≤ L) (nx : LH p l e s m below meth c b D q ad am cs ss Q 1238 (nI (5 * k))) : LH p l e s m below meth c b D q ad am cs ss Q 600 (nI (5 * k)) := by
  intro zx zm H locs ls hR hPx hPm hS hl
  obtain ⟨hx, hb, hr, hml, hown, hts, hX, hbl, hlocks, hgv⟩ := C.2.1
  have hK := C.2.2.1
  have hcs : cs ≤ room_1.cells ∧ ss ≤ room_1.slots := ⟨C.2.2.2.2.2.2.2.2.2.1, C.2.2.2.2.2.2.2.2.2.2⟩
  have hbA : ¬ s.heap.size ≤ b := Nat.not_le.mpr hbl
  have hL := C.1
  refine lv_aload_n hx hb dL_law_600 rfl (lv_at hl 2 rfl) ?_
  refine lv_aload_n hx hb dL_law_601 rfl (lv_at hl 3 rfl) ?_
  refine lv_iload_n hx hb dL_law_602 rfl (lv_at hl 0 rfl) ?_
  refine lv_iconst (v := (1 : Int32)) hx hb dL_law_603 (by decide) ?_
  refine lv_iadd hx hb dL_law_604 ?_
  rw [show nI (5 * k) + (1 : Int32) = nI (5 * k + 1) from nI_add _ 1]
  refine law_sld hx hb hX hbl hbA hS (by omega) C.1 dL_law_605 ?_
  refine law_ci (Wd := WX q ad) (En := xE D q ad (lAx ad)) (z := zx) (As := [.int (xs (5 * k + 1))]) (rest := []) (xE_G D q ad (lAx ad)) C.S (kX7_bump l D q ad (lAx ad) C.Dx zx (xs (5 * k + 1)) _ (q_bump hR (xs (5 * k + 1)))) (cwV 1 hts (cW_V (fun _ h => tG_tbl h) tw_co_X7_bump tw_ml_L_74 tw_im_X7_bump tw_se_X7_bump tw_in_X7) rfl rfl rfl (by decide +kernel) ⟨by decide, by decide⟩) (va_recv hK hPx (ci := 7) (q0 := 38) rfl (wx_38 q ad zx)) (C.Ex hS) hPx hS C.Ax rfl hl.1 rfl (Nat.le_of_ble_eq_true rfl) dL_law_606 hcs (fun r1 zx1 H1 locs1 hp hPx1 hk1 hS1 => ?_)
  have hPm1 := C.Pm hPm hk1
  clear hk1
  have hS := hS1
  refine lv_aload_n hx hb dL_law_609 rfl (lv_at hl 1 rfl) ?_
  refine lv_aload_n hx hb dL_law_610 rfl (lv_at hl 3 rfl) ?_
  refine lv_iload_n hx hb dL_law_611 rfl (lv_at hl 0 rfl) ?_
  refine lv_iconst (v := (1 : Int32)) hx hb dL_law_612 (by decide) ?_
  refine lv_iadd hx hb dL_law_613 ?_
  rw [show nI (5 * k) + (1 : Int32) = nI (5 * k + 1) from nI_add _ 1]
  refine law_sld hx hb hX hbl hbA hS (by omega) C.1 dL_law_614 ?_
  refine law_ci (Wd := WM q am) (En := mE D q) (z := zm) (As := [.int (xs (5 * k + 1))]) (rest := [.int r1]) (mE_G D q (lAm am)) C.S (kX8_bump l D q am (lAm am) C.Dm zm (xs (5 * k + 1)) _ hp) (cwV 1 hts (cW_V (fun _ h => tG_tbl h) tw_co_X8_bump tw_ml_L_77 tw_im_X8_bump tw_se_X8_bump tw_in_X8) rfl rfl rfl (by decide +kernel) ⟨by decide, by decide⟩) (va_recv hK hPm1 (ci := 8) (q0 := 0) rfl (wm_0 q am zm)) (C.Em hS1) hPm1 hS1 C.Am rfl hl.1 rfl (Nat.le_of_ble_eq_true rfl) dL_law_615 hcs (fun r2 zm1 H2 locs2 hp2 hPm2 hk2 hS2 => ?_)
  have hPx2 := C.Px hPx1 hk2
  refine lv_icmp_eq (tgt := 1238) hx hb dL_law_618 (by decide) (fun _ => ?_) (fun w => absurd hp2.1 w)
  exact nx zx1 zm1 H2 locs2 ls hp2.2 hPx2 hPm2 hS2 hl
set_option maxHeartbeats 4000000 in
set_option maxRecDepth 100000 in
theorem law_15 (C : LC p s m meth c b L xs D q ad am cs ss) {k : Nat} (hk : 5 * k + 5 ≤ L) (nx : LH p l e s m below meth c b D q ad am cs ss Q 1238 (nI (5 * k))) : LH p l e s m below meth c b D q ad am cs ss Q 623 (nI (5 * k)) := by
  intro zx zm H locs ls hR hPx hPm hS hl
  obtain ⟨hx, hb, hr, hml, hown, hts, hX, hbl, hlocks, hgv⟩ := C.2.1
  have hK := C.2.2.1
  have hcs : cs ≤ room_1.cells ∧ ss ≤ room_1.slots := ⟨C.2.2.2.2.2.2.2.2.2.1, C.2.2.2.2.2.2.2.2.2.2⟩
  have hbA : ¬ s.heap.size ≤ b := Nat.not_le.mpr hbl
  have hL := C.1
  refine lv_aload_n hx hb dL_law_623 rfl (lv_at hl 2 rfl) ?_
  refine lv_aload_n hx hb dL_law_624 rfl (lv_at hl 3 rfl) ?_
  refine lv_iload_n hx hb dL_law_625 rfl (lv_at hl 0 rfl) ?_
  refine lv_iconst (v := (1 : Int32)) hx hb dL_law_626 (by decide) ?_
  refine lv_iadd hx hb dL_law_627 ?_
  rw [show nI (5 * k) + (1 : Int32) = nI (5 * k + 1) from nI_add _ 1]
  refine law_sld hx hb hX hbl hbA hS (by omega) C.1 dL_law_628 ?_
  refine law_ci (Wd := WX q ad) (En := xE D q ad (lAx ad)) (z := zx) (As := [.int (xs (5 * k + 1))]) (rest := []) (xE_G D q ad (lAx ad)) C.S (kX7_sum l D q ad (lAx ad) C.Dx zx (xs (5 * k + 1)) _ (q_sum hR (xs (5 * k + 1)))) (cwV 1 hts (cW_V (fun _ h => tG_tbl h) tw_co_X7_sum tw_ml_L_78 tw_im_X7_sum tw_se_X7_sum tw_in_X7) rfl rfl rfl (by decide +kernel) ⟨by decide, by decide⟩) (va_recv hK hPx (ci := 7) (q0 := 38) rfl (wx_38 q ad zx)) (C.Ex hS) hPx hS C.Ax rfl hl.1 rfl (Nat.le_of_ble_eq_true rfl) dL_law_629 hcs (fun r1 zx1 H1 locs1 hp hPx1 hk1 hS1 => ?_)
  have hPm1 := C.Pm hPm hk1
  clear hk1
  have hS := hS1
  refine lv_aload_n hx hb dL_law_632 rfl (lv_at hl 1 rfl) ?_
  refine lv_aload_n hx hb dL_law_633 rfl (lv_at hl 3 rfl) ?_
  refine lv_iload_n hx hb dL_law_634 rfl (lv_at hl 0 rfl) ?_
  refine lv_iconst (v := (1 : Int32)) hx hb dL_law_635 (by decide) ?_
  refine lv_iadd hx hb dL_law_636 ?_
  rw [show nI (5 * k) + (1 : Int32) = nI (5 * k + 1) from nI_add _ 1]
  refine law_sld hx hb hX hbl hbA hS (by omega) C.1 dL_law_637 ?_
  refine law_ci (Wd := WM q am) (En := mE D q) (z := zm) (As := [.int (xs (5 * k + 1))]) (rest := [.int r1]) (mE_G D q (lAm am)) C.S (kX8_sum l D q am (lAm am) C.Dm zm (xs (5 * k + 1)) _ hp) (cwV 1 hts (cW_V (fun _ h => tG_tbl h) tw_co_X8_sum tw_ml_L_81 tw_im_X8_sum tw_se_X8_sum tw_in_X8) rfl rfl rfl (by decide +kernel) ⟨by decide, by decide⟩) (va_recv hK hPm1 (ci := 8) (q0 := 0) rfl (wm_0 q am zm)) (C.Em hS1) hPm1 hS1 C.Am rfl hl.1 rfl (Nat.le_of_ble_eq_true rfl) dL_law_638 hcs (fun r2 zm1 H2 locs2 hp2 hPm2 hk2 hS2 => ?_)
  have hPx2 := C.Px hPx1 hk2
  refine lv_icmp_eq (tgt := 1238) hx hb dL_law_641 (by decide) (fun _ => ?_) (fun w => absurd hp2.1 w)
  exact nx zx1 zm1 H2 locs2 ls hp2.2 hPx2 hPm2 hS2 hl
set_option maxHeartbeats 4000000 in
set_option maxRecDepth 100000 in
theorem law_16 (C : LC p s m meth c b L xs D q ad am cs ss) {k : Nat} (hk : 5 * k + 5 ≤ L) (nx : LH p l e s m below meth c b D q ad am cs ss Q 1238 (nI (5 * k))) : LH p l e s m below meth c b D q ad am cs ss Q 646 (nI (5 * k)) := by
  intro zx zm H locs ls hR hPx hPm hS hl
  obtain ⟨hx, hb, hr, hml, hown, hts, hX, hbl, hlocks, hgv⟩ := C.2.1
  have hK := C.2.2.1
  have hcs : cs ≤ room_1.cells ∧ ss ≤ room_1.slots := ⟨C.2.2.2.2.2.2.2.2.2.1, C.2.2.2.2.2.2.2.2.2.2⟩
  have hbA : ¬ s.heap.size ≤ b := Nat.not_le.mpr hbl
  have hL := C.1
  refine lv_aload_n hx hb dL_law_646 rfl (lv_at hl 2 rfl) ?_
  refine lv_aload_n hx hb dL_law_647 rfl (lv_at hl 3 rfl) ?_
  refine lv_iload_n hx hb dL_law_648 rfl (lv_at hl 0 rfl) ?_
  refine lv_iconst (v := (1 : Int32)) hx hb dL_law_649 (by decide) ?_
  refine lv_iadd hx hb dL_law_650 ?_
  rw [show nI (5 * k) + (1 : Int32) = nI (5 * k + 1) from nI_add _ 1]
  refine law_sld hx hb hX hbl hbA hS (by omega) C.1 dL_law_651 ?_
  refine law_ci (Wd := WX q ad) (En := xE D q ad (lAx ad)) (z := zx) (As := [.int (xs (5 * k + 1))]) (rest := []) (xE_G D q ad (lAx ad)) C.S (kX7_fewest l D q ad (lAx ad) C.Dx zx (xs (5 * k + 1)) _ (q_fewest hR (xs (5 * k + 1)))) (cwV 1 hts (cW_V (fun _ h => tG_tbl h) tw_co_X7_fewest tw_ml_L_82 tw_im_X7_fewest tw_se_X7_fewest tw_in_X7) rfl rfl rfl (by decide +kernel) ⟨by decide, by decide⟩) (va_recv hK hPx (ci := 7) (q0 := 38) rfl (wx_38 q ad zx)) (C.Ex hS) hPx hS C.Ax rfl hl.1 rfl (Nat.le_of_ble_eq_true rfl) dL_law_652 hcs (fun r1 zx1 H1 locs1 hp hPx1 hk1 hS1 => ?_)
  have hPm1 := C.Pm hPm hk1
  clear hk1
  have hS := hS1
  refine lv_aload_n hx hb dL_law_655 rfl (lv_at hl 1 rfl) ?_
  refine lv_aload_n hx hb dL_law_656 rfl (lv_at hl 3 rfl) ?_
  refine lv_iload_n hx hb dL_law_657 rfl (lv_at hl 0 rfl) ?_
  refine lv_iconst (v := (1 : Int32)) hx hb dL_law_658 (by decide) ?_
  refine lv_iadd hx hb dL_law_659 ?_
  rw [show nI (5 * k) + (1 : Int32) = nI (5 * k + 1) from nI_add _ 1]
  refine law_sld hx hb hX hbl hbA hS (by omega) C.1 dL_law_660 ?_
  refine law_ci (Wd := WM q am) (En := mE D q) (z := zm) (As := [.int (xs (5 * k + 1))]) (rest := [.int r1]) (mE_G D q (lAm am)) C.S (kX8_fewest l D q am (lAm am) C.Dm zm (xs (5 * k + 1)) _ hp) (cwV 1 hts (cW_V (fun _ h => tG_tbl h) tw_co_X8_fewest tw_ml_L_85 tw_im_X8_fewest tw_se_X8_fewest tw_in_X8) rfl rfl rfl (by decide +kernel) ⟨by decide, by decide⟩) (va_recv hK hPm1 (ci := 8) (q0 := 0) rfl (wm_0 q am zm)) (C.Em hS1) hPm1 hS1 C.Am rfl hl.1 rfl (Nat.le_of_ble_eq_true rfl) dL_law_661 hcs (fun r2 zm1 H2 locs2 hp2 hPm2 hk2 hS2 => ?_)
  have hPx2 := C.Px hPx1 hk2
  refine lv_icmp_eq (tgt := 1238) hx hb dL_law_664 (by decide) (fun _ => ?_) (fun w => absurd hp2.1 w)
  exact nx zx1 zm1 H2 locs2 ls hp2.2 hPx2 hPm2 hS2 hl
set_option maxHeartbeats 4000000 in
set_option maxRecDepth 100000 in
theorem law_17 (C : LC p s m meth c b L xs D q ad am cs ss) {k : Nat} (hk : 5 * k + 5 ≤ L) (nx : LH p l e s m below meth c b D q ad am cs ss Q 1238 (nI (5 * k))) : LH p l e s m below meth c b D q ad am cs ss Q 669 (nI (5 * k)) := by
  intro zx zm H locs ls hR hPx hPm hS hl
  obtain ⟨hx, hb, hr, hml, hown, hts, hX, hbl, hlocks, hgv⟩ := C.2.1
  have hK := C.2.2.1
  have hcs : cs ≤ room_1.cells ∧ ss ≤ room_1.slots := ⟨C.2.2.2.2.2.2.2.2.2.1, C.2.2.2.2.2.2.2.2.2.2⟩
  have hbA : ¬ s.heap.size ≤ b := Nat.not_le.mpr hbl
  have hL := C.1
  refine lv_aload_n hx hb dL_law_669 rfl (lv_at hl 2 rfl) ?_
  refine lv_aload_n hx hb dL_law_670 rfl (lv_at hl 3 rfl) ?_
  refine lv_iload_n hx hb dL_law_671 rfl (lv_at hl 0 rfl) ?_
  refine lv_iconst (v := (1 : Int32)) hx hb dL_law_672 (by decide) ?_
  refine lv_iadd hx hb dL_law_673 ?_
  rw [show nI (5 * k) + (1 : Int32) = nI (5 * k + 1) from nI_add _ 1]
  refine law_sld hx hb hX hbl hbA hS (by omega) C.1 dL_law_674 ?_
  refine law_ci (Wd := WX q ad) (En := xE D q ad (lAx ad)) (z := zx) (As := [.int (xs (5 * k + 1))]) (rest := []) (xE_G D q ad (lAx ad)) C.S (kX7_guards l D q ad (lAx ad) C.Dx zx (xs (5 * k + 1)) _ (q_guards hR (xs (5 * k + 1)))) (cwV 1 hts (cW_V (fun _ h => tG_tbl h) tw_co_X7_guards tw_ml_L_86 tw_im_X7_guards tw_se_X7_guards tw_in_X7) rfl rfl rfl (by decide +kernel) ⟨by decide, by decide⟩) (va_recv hK hPx (ci := 7) (q0 := 38) rfl (wx_38 q ad zx)) (C.Ex hS) hPx hS C.Ax rfl hl.1 rfl (Nat.le_of_ble_eq_true rfl) dL_law_675 hcs (fun r1 zx1 H1 locs1 hp hPx1 hk1 hS1 => ?_)
  have hPm1 := C.Pm hPm hk1
  clear hk1
  have hS := hS1
  refine lv_aload_n hx hb dL_law_678 rfl (lv_at hl 1 rfl) ?_
  refine lv_aload_n hx hb dL_law_679 rfl (lv_at hl 3 rfl) ?_
  refine lv_iload_n hx hb dL_law_680 rfl (lv_at hl 0 rfl) ?_
  refine lv_iconst (v := (1 : Int32)) hx hb dL_law_681 (by decide) ?_
  refine lv_iadd hx hb dL_law_682 ?_
  rw [show nI (5 * k) + (1 : Int32) = nI (5 * k + 1) from nI_add _ 1]
  refine law_sld hx hb hX hbl hbA hS (by omega) C.1 dL_law_683 ?_
  refine law_ci (Wd := WM q am) (En := mE D q) (z := zm) (As := [.int (xs (5 * k + 1))]) (rest := [.int r1]) (mE_G D q (lAm am)) C.S (kX8_guards l D q am (lAm am) C.Dm zm (xs (5 * k + 1)) _ hp) (cwV 1 hts (cW_V (fun _ h => tG_tbl h) tw_co_X8_guards tw_ml_L_89 tw_im_X8_guards tw_se_X8_guards tw_in_X8) rfl rfl rfl (by decide +kernel) ⟨by decide, by decide⟩) (va_recv hK hPm1 (ci := 8) (q0 := 0) rfl (wm_0 q am zm)) (C.Em hS1) hPm1 hS1 C.Am rfl hl.1 rfl (Nat.le_of_ble_eq_true rfl) dL_law_684 hcs (fun r2 zm1 H2 locs2 hp2 hPm2 hk2 hS2 => ?_)
  have hPx2 := C.Px hPx1 hk2
  refine lv_icmp_eq (tgt := 1238) hx hb dL_law_687 (by decide) (fun _ => ?_) (fun w => absurd hp2.1 w)
  exact nx zx1 zm1 H2 locs2 ls hp2.2 hPx2 hPm2 hS2 hl
set_option maxHeartbeats 4000000 in
set_option maxRecDepth 100000 in
theorem law_18 (C : LC p s m meth c b L xs D q ad am cs ss) {k : Nat} (hk : 5 * k + 5 ≤ L) (nx : LH p l e s m below meth c b D q ad am cs ss Q 1238 (nI (5 * k))) : LH p l e s m below meth c b D q ad am cs ss Q 692 (nI (5 * k)) := by
  intro zx zm H locs ls hR hPx hPm hS hl
  obtain ⟨hx, hb, hr, hml, hown, hts, hX, hbl, hlocks, hgv⟩ := C.2.1
  have hK := C.2.2.1
  have hcs : cs ≤ room_1.cells ∧ ss ≤ room_1.slots := ⟨C.2.2.2.2.2.2.2.2.2.1, C.2.2.2.2.2.2.2.2.2.2⟩
  have hbA : ¬ s.heap.size ≤ b := Nat.not_le.mpr hbl
  have hL := C.1
  refine lv_aload_n hx hb dL_law_692 rfl (lv_at hl 2 rfl) ?_
  refine lv_aload_n hx hb dL_law_693 rfl (lv_at hl 3 rfl) ?_
  refine lv_iload_n hx hb dL_law_694 rfl (lv_at hl 0 rfl) ?_
  refine lv_iconst (v := (1 : Int32)) hx hb dL_law_695 (by decide) ?_
  refine lv_iadd hx hb dL_law_696 ?_
  rw [show nI (5 * k) + (1 : Int32) = nI (5 * k + 1) from nI_add _ 1]
  refine law_sld hx hb hX hbl hbA hS (by omega) C.1 dL_law_697 ?_
  refine law_ci (Wd := WX q ad) (En := xE D q ad (lAx ad)) (z := zx) (As := [.int (xs (5 * k + 1))]) (rest := []) (xE_G D q ad (lAx ad)) C.S (kX7_magpies l D q ad (lAx ad) C.Dx zx (xs (5 * k + 1)) _ (q_magpies hR (xs (5 * k + 1)))) (cwV 1 hts (cW_V (fun _ h => tG_tbl h) tw_co_X7_magpies tw_ml_L_90 tw_im_X7_magpies tw_se_X7_magpies tw_in_X7) rfl rfl rfl (by decide +kernel) ⟨by decide, by decide⟩) (va_recv hK hPx (ci := 7) (q0 := 38) rfl (wx_38 q ad zx)) (C.Ex hS) hPx hS C.Ax rfl hl.1 rfl (Nat.le_of_ble_eq_true rfl) dL_law_698 hcs (fun r1 zx1 H1 locs1 hp hPx1 hk1 hS1 => ?_)
  have hPm1 := C.Pm hPm hk1
  clear hk1
  have hS := hS1
  refine lv_aload_n hx hb dL_law_701 rfl (lv_at hl 1 rfl) ?_
  refine lv_aload_n hx hb dL_law_702 rfl (lv_at hl 3 rfl) ?_
  refine lv_iload_n hx hb dL_law_703 rfl (lv_at hl 0 rfl) ?_
  refine lv_iconst (v := (1 : Int32)) hx hb dL_law_704 (by decide) ?_
  refine lv_iadd hx hb dL_law_705 ?_
  rw [show nI (5 * k) + (1 : Int32) = nI (5 * k + 1) from nI_add _ 1]
  refine law_sld hx hb hX hbl hbA hS (by omega) C.1 dL_law_706 ?_
  refine law_ci (Wd := WM q am) (En := mE D q) (z := zm) (As := [.int (xs (5 * k + 1))]) (rest := [.int r1]) (mE_G D q (lAm am)) C.S (kX8_magpies l D q am (lAm am) C.Dm zm (xs (5 * k + 1)) _ hp) (cwV 1 hts (cW_V (fun _ h => tG_tbl h) tw_co_X8_magpies tw_ml_L_93 tw_im_X8_magpies tw_se_X8_magpies tw_in_X8) rfl rfl rfl (by decide +kernel) ⟨by decide, by decide⟩) (va_recv hK hPm1 (ci := 8) (q0 := 0) rfl (wm_0 q am zm)) (C.Em hS1) hPm1 hS1 C.Am rfl hl.1 rfl (Nat.le_of_ble_eq_true rfl) dL_law_707 hcs (fun r2 zm1 H2 locs2 hp2 hPm2 hk2 hS2 => ?_)
  have hPx2 := C.Px hPx1 hk2
  refine lv_icmp_eq (tgt := 1238) hx hb dL_law_710 (by decide) (fun _ => ?_) (fun w => absurd hp2.1 w)
  exact nx zx1 zm1 H2 locs2 ls hp2.2 hPx2 hPm2 hS2 hl
set_option maxHeartbeats 4000000 in
set_option maxRecDepth 100000 in
theorem law_19 (C : LC p s m meth c b L xs D q ad am cs ss) {k : Nat} (hk : 5 * k + 5 ≤ L) (nx : LH p l e s m below meth c b D q ad am cs ss Q 1238 (nI (5 * k))) : LH p l e s m below meth c b D q ad am cs ss Q 715 (nI (5 * k)) := by
  intro zx zm H locs ls hR hPx hPm hS hl
  obtain ⟨hx, hb, hr, hml, hown, hts, hX, hbl, hlocks, hgv⟩ := C.2.1
  have hK := C.2.2.1
  have hcs : cs ≤ room_1.cells ∧ ss ≤ room_1.slots := ⟨C.2.2.2.2.2.2.2.2.2.1, C.2.2.2.2.2.2.2.2.2.2⟩
  have hbA : ¬ s.heap.size ≤ b := Nat.not_le.mpr hbl
  have hL := C.1
  refine lv_aload_n hx hb dL_law_715 rfl (lv_at hl 2 rfl) ?_
  refine lv_aload_n hx hb dL_law_716 rfl (lv_at hl 3 rfl) ?_
  refine lv_iload_n hx hb dL_law_717 rfl (lv_at hl 0 rfl) ?_
  refine lv_iconst (v := (1 : Int32)) hx hb dL_law_718 (by decide) ?_
  refine lv_iadd hx hb dL_law_719 ?_
  rw [show nI (5 * k) + (1 : Int32) = nI (5 * k + 1) from nI_add _ 1]
  refine law_sld hx hb hX hbl hbA hS (by omega) C.1 dL_law_720 ?_
  refine law_ci (Wd := WX q ad) (En := xE D q ad (lAx ad)) (z := zx) (As := [.int (xs (5 * k + 1))]) (rest := []) (xE_G D q ad (lAx ad)) C.S (kX7_starts l D q ad (lAx ad) C.Dx zx (xs (5 * k + 1)) _ (q_starts hR (xs (5 * k + 1)))) (cwV 1 hts (cW_V (fun _ h => tG_tbl h) tw_co_X7_starts tw_ml_L_94 tw_im_X7_starts tw_se_X7_starts tw_in_X7) rfl rfl rfl (by decide +kernel) ⟨by decide, by decide⟩) (va_recv hK hPx (ci := 7) (q0 := 38) rfl (wx_38 q ad zx)) (C.Ex hS) hPx hS C.Ax rfl hl.1 rfl (Nat.le_of_ble_eq_true rfl) dL_law_721 hcs (fun r1 zx1 H1 locs1 hp hPx1 hk1 hS1 => ?_)
  have hPm1 := C.Pm hPm hk1
  clear hk1
  have hS := hS1
  refine lv_aload_n hx hb dL_law_724 rfl (lv_at hl 1 rfl) ?_
  refine lv_aload_n hx hb dL_law_725 rfl (lv_at hl 3 rfl) ?_
  refine lv_iload_n hx hb dL_law_726 rfl (lv_at hl 0 rfl) ?_
  refine lv_iconst (v := (1 : Int32)) hx hb dL_law_727 (by decide) ?_
  refine lv_iadd hx hb dL_law_728 ?_
  rw [show nI (5 * k) + (1 : Int32) = nI (5 * k + 1) from nI_add _ 1]
  refine law_sld hx hb hX hbl hbA hS (by omega) C.1 dL_law_729 ?_
  refine law_ci (Wd := WM q am) (En := mE D q) (z := zm) (As := [.int (xs (5 * k + 1))]) (rest := [.int r1]) (mE_G D q (lAm am)) C.S (kX8_starts l D q am (lAm am) C.Dm zm (xs (5 * k + 1)) _ hp) (cwV 1 hts (cW_V (fun _ h => tG_tbl h) tw_co_X8_starts tw_ml_L_97 tw_im_X8_starts tw_se_X8_starts tw_in_X8) rfl rfl rfl (by decide +kernel) ⟨by decide, by decide⟩) (va_recv hK hPm1 (ci := 8) (q0 := 0) rfl (wm_0 q am zm)) (C.Em hS1) hPm1 hS1 C.Am rfl hl.1 rfl (Nat.le_of_ble_eq_true rfl) dL_law_730 hcs (fun r2 zm1 H2 locs2 hp2 hPm2 hk2 hS2 => ?_)
  have hPx2 := C.Px hPx1 hk2
  refine lv_icmp_eq (tgt := 1238) hx hb dL_law_733 (by decide) (fun _ => ?_) (fun w => absurd hp2.1 w)
  exact nx zx1 zm1 H2 locs2 ls hp2.2 hPx2 hPm2 hS2 hl
set_option maxHeartbeats 4000000 in
set_option maxRecDepth 100000 in
theorem law_20 (C : LC p s m meth c b L xs D q ad am cs ss) {k : Nat} (hk : 5 * k + 5 ≤ L) (nx : LH p l e s m below meth c b D q ad am cs ss Q 1238 (nI (5 * k))) : LH p l e s m below meth c b D q ad am cs ss Q 738 (nI (5 * k)) := by
  intro zx zm H locs ls hR hPx hPm hS hl
  obtain ⟨hx, hb, hr, hml, hown, hts, hX, hbl, hlocks, hgv⟩ := C.2.1
  have hK := C.2.2.1
  have hcs : cs ≤ room_1.cells ∧ ss ≤ room_1.slots := ⟨C.2.2.2.2.2.2.2.2.2.1, C.2.2.2.2.2.2.2.2.2.2⟩
  have hbA : ¬ s.heap.size ≤ b := Nat.not_le.mpr hbl
  have hL := C.1
  refine lv_aload_n hx hb dL_law_738 rfl (lv_at hl 2 rfl) ?_
  refine lv_aload_n hx hb dL_law_739 rfl (lv_at hl 3 rfl) ?_
  refine lv_iload_n hx hb dL_law_740 rfl (lv_at hl 0 rfl) ?_
  refine lv_iconst (v := (1 : Int32)) hx hb dL_law_741 (by decide) ?_
  refine lv_iadd hx hb dL_law_742 ?_
  rw [show nI (5 * k) + (1 : Int32) = nI (5 * k + 1) from nI_add _ 1]
  refine law_sld hx hb hX hbl hbA hS (by omega) C.1 dL_law_743 ?_
  refine law_ci (Wd := WX q ad) (En := xE D q ad (lAx ad)) (z := zx) (As := [.int (xs (5 * k + 1))]) (rest := []) (xE_G D q ad (lAx ad)) C.S (kX7_allowed l D q ad (lAx ad) C.Dx zx (xs (5 * k + 1)) _ (q_allowed hR (xs (5 * k + 1)))) (cwV 1 hts (cW_V (fun _ h => tG_tbl h) tw_co_X7_allowed tw_ml_L_98 tw_im_X7_allowed tw_se_X7_allowed tw_in_X7) rfl rfl rfl (by decide +kernel) ⟨by decide, by decide⟩) (va_recv hK hPx (ci := 7) (q0 := 38) rfl (wx_38 q ad zx)) (C.Ex hS) hPx hS C.Ax rfl hl.1 rfl (Nat.le_of_ble_eq_true rfl) dL_law_744 hcs (fun r1 zx1 H1 locs1 hp hPx1 hk1 hS1 => ?_)
  have hPm1 := C.Pm hPm hk1
  clear hk1
  have hS := hS1
  refine lv_aload_n hx hb dL_law_747 rfl (lv_at hl 1 rfl) ?_
  refine lv_aload_n hx hb dL_law_748 rfl (lv_at hl 3 rfl) ?_
  refine lv_iload_n hx hb dL_law_749 rfl (lv_at hl 0 rfl) ?_
  refine lv_iconst (v := (1 : Int32)) hx hb dL_law_750 (by decide) ?_
  refine lv_iadd hx hb dL_law_751 ?_
  rw [show nI (5 * k) + (1 : Int32) = nI (5 * k + 1) from nI_add _ 1]
  refine law_sld hx hb hX hbl hbA hS (by omega) C.1 dL_law_752 ?_
  refine law_ci (Wd := WM q am) (En := mE D q) (z := zm) (As := [.int (xs (5 * k + 1))]) (rest := [.int r1]) (mE_G D q (lAm am)) C.S (kX8_allowed l D q am (lAm am) C.Dm zm (xs (5 * k + 1)) _ hp) (cwV 1 hts (cW_V (fun _ h => tG_tbl h) tw_co_X8_allowed tw_ml_L_101 tw_im_X8_allowed tw_se_X8_allowed tw_in_X8) rfl rfl rfl (by decide +kernel) ⟨by decide, by decide⟩) (va_recv hK hPm1 (ci := 8) (q0 := 0) rfl (wm_0 q am zm)) (C.Em hS1) hPm1 hS1 C.Am rfl hl.1 rfl (Nat.le_of_ble_eq_true rfl) dL_law_753 hcs (fun r2 zm1 H2 locs2 hp2 hPm2 hk2 hS2 => ?_)
  have hPx2 := C.Px hPx1 hk2
  refine lv_icmp_eq (tgt := 1238) hx hb dL_law_756 (by decide) (fun _ => ?_) (fun w => absurd hp2.1 w)
  exact nx zx1 zm1 H2 locs2 ls hp2.2 hPx2 hPm2 hS2 hl
set_option maxHeartbeats 4000000 in
set_option maxRecDepth 100000 in
theorem law_21 (C : LC p s m meth c b L xs D q ad am cs ss) {k : Nat} (hk : 5 * k + 5 ≤ L) (nx : LH p l e s m below meth c b D q ad am cs ss Q 1238 (nI (5 * k))) : LH p l e s m below meth c b D q ad am cs ss Q 761 (nI (5 * k)) := by
  intro zx zm H locs ls hR hPx hPm hS hl
  obtain ⟨hx, hb, hr, hml, hown, hts, hX, hbl, hlocks, hgv⟩ := C.2.1
  have hK := C.2.2.1
  have hcs : cs ≤ room_1.cells ∧ ss ≤ room_1.slots := ⟨C.2.2.2.2.2.2.2.2.2.1, C.2.2.2.2.2.2.2.2.2.2⟩
  have hbA : ¬ s.heap.size ≤ b := Nat.not_le.mpr hbl
  have hL := C.1
  refine lv_aload_n hx hb dL_law_761 rfl (lv_at hl 2 rfl) ?_
  refine lv_aload_n hx hb dL_law_762 rfl (lv_at hl 3 rfl) ?_
  refine lv_iload_n hx hb dL_law_763 rfl (lv_at hl 0 rfl) ?_
  refine lv_iconst (v := (1 : Int32)) hx hb dL_law_764 (by decide) ?_
  refine lv_iadd hx hb dL_law_765 ?_
  rw [show nI (5 * k) + (1 : Int32) = nI (5 * k + 1) from nI_add _ 1]
  refine law_sld hx hb hX hbl hbA hS (by omega) C.1 dL_law_766 ?_
  refine law_ci (Wd := WX q ad) (En := xE D q ad (lAx ad)) (z := zx) (As := [.int (xs (5 * k + 1))]) (rest := []) (xE_G D q ad (lAx ad)) C.S (kX7_convert l D q ad (lAx ad) C.Dx zx (xs (5 * k + 1)) _ (q_convert hR (xs (5 * k + 1)))) (cwV 1 hts (cW_V (fun _ h => tG_tbl h) tw_co_X7_convert tw_ml_L_102 tw_im_X7_convert tw_se_X7_convert tw_in_X7) rfl rfl rfl (by decide +kernel) ⟨by decide, by decide⟩) (va_recv hK hPx (ci := 7) (q0 := 38) rfl (wx_38 q ad zx)) (C.Ex hS) hPx hS C.Ax rfl hl.1 rfl (Nat.le_of_ble_eq_true rfl) dL_law_767 hcs (fun r1 zx1 H1 locs1 hp hPx1 hk1 hS1 => ?_)
  have hPm1 := C.Pm hPm hk1
  clear hk1
  have hS := hS1
  refine lv_aload_n hx hb dL_law_770 rfl (lv_at hl 1 rfl) ?_
  refine lv_aload_n hx hb dL_law_771 rfl (lv_at hl 3 rfl) ?_
  refine lv_iload_n hx hb dL_law_772 rfl (lv_at hl 0 rfl) ?_
  refine lv_iconst (v := (1 : Int32)) hx hb dL_law_773 (by decide) ?_
  refine lv_iadd hx hb dL_law_774 ?_
  rw [show nI (5 * k) + (1 : Int32) = nI (5 * k + 1) from nI_add _ 1]
  refine law_sld hx hb hX hbl hbA hS (by omega) C.1 dL_law_775 ?_
  refine law_ci (Wd := WM q am) (En := mE D q) (z := zm) (As := [.int (xs (5 * k + 1))]) (rest := [.int r1]) (mE_G D q (lAm am)) C.S (kX8_convert l D q am (lAm am) C.Dm zm (xs (5 * k + 1)) _ hp) (cwV 1 hts (cW_V (fun _ h => tG_tbl h) tw_co_X8_convert tw_ml_L_105 tw_im_X8_convert tw_se_X8_convert tw_in_X8) rfl rfl rfl (by decide +kernel) ⟨by decide, by decide⟩) (va_recv hK hPm1 (ci := 8) (q0 := 0) rfl (wm_0 q am zm)) (C.Em hS1) hPm1 hS1 C.Am rfl hl.1 rfl (Nat.le_of_ble_eq_true rfl) dL_law_776 hcs (fun r2 zm1 H2 locs2 hp2 hPm2 hk2 hS2 => ?_)
  have hPx2 := C.Px hPx1 hk2
  refine lv_icmp_eq (tgt := 1238) hx hb dL_law_779 (by decide) (fun _ => ?_) (fun w => absurd hp2.1 w)
  exact nx zx1 zm1 H2 locs2 ls hp2.2 hPx2 hPm2 hS2 hl
set_option maxHeartbeats 4000000 in
set_option maxRecDepth 100000 in
theorem law_22 (C : LC p s m meth c b L xs D q ad am cs ss) {k : Nat} (hk : 5 * k + 5 ≤ L) (nx : LH p l e s m below meth c b D q ad am cs ss Q 1238 (nI (5 * k))) : LH p l e s m below meth c b D q ad am cs ss Q 784 (nI (5 * k)) := by
  intro zx zm H locs ls hR hPx hPm hS hl
  obtain ⟨hx, hb, hr, hml, hown, hts, hX, hbl, hlocks, hgv⟩ := C.2.1
  have hK := C.2.2.1
  have hcs : cs ≤ room_1.cells ∧ ss ≤ room_1.slots := ⟨C.2.2.2.2.2.2.2.2.2.1, C.2.2.2.2.2.2.2.2.2.2⟩
  have hbA : ¬ s.heap.size ≤ b := Nat.not_le.mpr hbl
  have hL := C.1
  refine lv_aload_n hx hb dL_law_784 rfl (lv_at hl 2 rfl) ?_
  refine lv_aload_n hx hb dL_law_785 rfl (lv_at hl 3 rfl) ?_
  refine lv_iload_n hx hb dL_law_786 rfl (lv_at hl 0 rfl) ?_
  refine lv_iconst (v := (1 : Int32)) hx hb dL_law_787 (by decide) ?_
  refine lv_iadd hx hb dL_law_788 ?_
  rw [show nI (5 * k) + (1 : Int32) = nI (5 * k + 1) from nI_add _ 1]
  refine law_sld hx hb hX hbl hbA hS (by omega) C.1 dL_law_789 ?_
  refine lv_aload_n hx hb dL_law_790 rfl (lv_at hl 3 rfl) ?_
  refine lv_iload_n hx hb dL_law_791 rfl (lv_at hl 0 rfl) ?_
  refine lv_iconst (v := (2 : Int32)) hx hb dL_law_792 (by decide) ?_
  refine lv_iadd hx hb dL_law_793 ?_
  rw [show nI (5 * k) + (2 : Int32) = nI (5 * k + 2) from nI_add _ 2]
  refine law_sld hx hb hX hbl hbA hS (by omega) C.1 dL_law_794 ?_
  refine law_cl (Wd := WX q ad) (En := xE D q ad (lAx ad)) (z := zx) (As := [.int (xs (5 * k + 1)), .int (xs (5 * k + 2))]) (rest := []) (xE_G D q ad (lAx ad)) C.S (kX7_mean l D q ad (lAx ad) C.Dx zx (xs (5 * k + 1)) (xs (5 * k + 2)) _ (q_mean hR (xs (5 * k + 1)) (xs (5 * k + 2)))) (cwV 2 hts (cW_V (fun _ h => tG_tbl h) tw_co_X7_mean tw_ml_L_106 tw_im_X7_mean tw_se_X7_mean tw_in_X7) rfl rfl rfl (by decide +kernel) ⟨by decide, by decide⟩) (va_recv hK hPx (ci := 7) (q0 := 38) rfl (wx_38 q ad zx)) (C.Ex hS) hPx hS C.Ax rfl hl.1 rfl (Nat.le_of_ble_eq_true rfl) dL_law_795 hcs (fun r1 zx1 H1 locs1 hp hPx1 hk1 hS1 => ?_)
  have hPm1 := C.Pm hPm hk1
  clear hk1
  have hS := hS1
  refine lv_aload_n hx hb dL_law_798 rfl (lv_at hl 1 rfl) ?_
  refine lv_aload_n hx hb dL_law_799 rfl (lv_at hl 3 rfl) ?_
  refine lv_iload_n hx hb dL_law_800 rfl (lv_at hl 0 rfl) ?_
  refine lv_iconst (v := (1 : Int32)) hx hb dL_law_801 (by decide) ?_
  refine lv_iadd hx hb dL_law_802 ?_
  rw [show nI (5 * k) + (1 : Int32) = nI (5 * k + 1) from nI_add _ 1]
  refine law_sld hx hb hX hbl hbA hS (by omega) C.1 dL_law_803 ?_
  refine lv_aload_n hx hb dL_law_804 rfl (lv_at hl 3 rfl) ?_
  refine lv_iload_n hx hb dL_law_805 rfl (lv_at hl 0 rfl) ?_
  refine lv_iconst (v := (2 : Int32)) hx hb dL_law_806 (by decide) ?_
  refine lv_iadd hx hb dL_law_807 ?_
  rw [show nI (5 * k) + (2 : Int32) = nI (5 * k + 2) from nI_add _ 2]
  refine law_sld hx hb hX hbl hbA hS (by omega) C.1 dL_law_808 ?_
  refine law_cl (Wd := WM q am) (En := mE D q) (z := zm) (As := [.int (xs (5 * k + 1)), .int (xs (5 * k + 2))]) (rest := [.long r1]) (mE_G D q (lAm am)) C.S (kX8_mean l D q am (lAm am) C.Dm zm (xs (5 * k + 1)) (xs (5 * k + 2)) _ hp) (cwV 2 hts (cW_V (fun _ h => tG_tbl h) tw_co_X8_mean tw_ml_L_110 tw_im_X8_mean tw_se_X8_mean tw_in_X8) rfl rfl rfl (by decide +kernel) ⟨by decide, by decide⟩) (va_recv hK hPm1 (ci := 8) (q0 := 0) rfl (wm_0 q am zm)) (C.Em hS1) hPm1 hS1 C.Am rfl hl.1 rfl (Nat.le_of_ble_eq_true rfl) dL_law_809 hcs (fun r2 zm1 H2 locs2 hp2 hPm2 hk2 hS2 => ?_)
  have hPx2 := C.Px hPx1 hk2
  refine W.lcmp hx hb dL_law_812 ?_
  refine lv_if_eq (tgt := 1238) hx hb dL_law_813 (by decide) (fun _ => ?_) (fun w => absurd ((lc_eq _ _).mpr hp2.1) w)
  exact nx zx1 zm1 H2 locs2 ls hp2.2 hPx2 hPm2 hS2 hl
set_option maxHeartbeats 4000000 in
set_option maxRecDepth 100000 in
theorem law_23 (C : LC p s m meth c b L xs D q ad am cs ss) {k : Nat} (hk : 5 * k + 5 ≤ L) (nx : LH p l e s m below meth c b D q ad am cs ss Q 1238 (nI (5 * k))) : LH p l e s m below meth c b D q ad am cs ss Q 818 (nI (5 * k)) := by
  intro zx zm H locs ls hR hPx hPm hS hl
  obtain ⟨hx, hb, hr, hml, hown, hts, hX, hbl, hlocks, hgv⟩ := C.2.1
  have hK := C.2.2.1
  have hcs : cs ≤ room_1.cells ∧ ss ≤ room_1.slots := ⟨C.2.2.2.2.2.2.2.2.2.1, C.2.2.2.2.2.2.2.2.2.2⟩
  have hbA : ¬ s.heap.size ≤ b := Nat.not_le.mpr hbl
  have hL := C.1
  refine lv_aload_n hx hb dL_law_818 rfl (lv_at hl 2 rfl) ?_
  refine lv_aload_n hx hb dL_law_819 rfl (lv_at hl 3 rfl) ?_
  refine lv_iload_n hx hb dL_law_820 rfl (lv_at hl 0 rfl) ?_
  refine lv_iconst (v := (1 : Int32)) hx hb dL_law_821 (by decide) ?_
  refine lv_iadd hx hb dL_law_822 ?_
  rw [show nI (5 * k) + (1 : Int32) = nI (5 * k + 1) from nI_add _ 1]
  refine law_sld hx hb hX hbl hbA hS (by omega) C.1 dL_law_823 ?_
  refine lv_aload_n hx hb dL_law_824 rfl (lv_at hl 3 rfl) ?_
  refine lv_iload_n hx hb dL_law_825 rfl (lv_at hl 0 rfl) ?_
  refine lv_iconst (v := (2 : Int32)) hx hb dL_law_826 (by decide) ?_
  refine lv_iadd hx hb dL_law_827 ?_
  rw [show nI (5 * k) + (2 : Int32) = nI (5 * k + 2) from nI_add _ 2]
  refine law_sld hx hb hX hbl hbA hS (by omega) C.1 dL_law_828 ?_
  refine law_cl (Wd := WX q ad) (En := xE D q ad (lAx ad)) (z := zx) (As := [.int (xs (5 * k + 1)), .int (xs (5 * k + 2))]) (rest := []) (xE_G D q ad (lAx ad)) C.S (kX7_luck l D q ad (lAx ad) C.Dx zx (xs (5 * k + 1)) (xs (5 * k + 2)) _ (q_luck hR (xs (5 * k + 1)) (xs (5 * k + 2)))) (cwV 2 hts (cW_V (fun _ h => tG_tbl h) tw_co_X7_luck tw_ml_L_111 tw_im_X7_luck tw_se_X7_luck tw_in_X7) rfl rfl rfl (by decide +kernel) ⟨by decide, by decide⟩) (va_recv hK hPx (ci := 7) (q0 := 38) rfl (wx_38 q ad zx)) (C.Ex hS) hPx hS C.Ax rfl hl.1 rfl (Nat.le_of_ble_eq_true rfl) dL_law_829 hcs (fun r1 zx1 H1 locs1 hp hPx1 hk1 hS1 => ?_)
  have hPm1 := C.Pm hPm hk1
  clear hk1
  have hS := hS1
  refine lv_aload_n hx hb dL_law_832 rfl (lv_at hl 1 rfl) ?_
  refine lv_aload_n hx hb dL_law_833 rfl (lv_at hl 3 rfl) ?_
  refine lv_iload_n hx hb dL_law_834 rfl (lv_at hl 0 rfl) ?_
  refine lv_iconst (v := (1 : Int32)) hx hb dL_law_835 (by decide) ?_
  refine lv_iadd hx hb dL_law_836 ?_
  rw [show nI (5 * k) + (1 : Int32) = nI (5 * k + 1) from nI_add _ 1]
  refine law_sld hx hb hX hbl hbA hS (by omega) C.1 dL_law_837 ?_
  refine lv_aload_n hx hb dL_law_838 rfl (lv_at hl 3 rfl) ?_
  refine lv_iload_n hx hb dL_law_839 rfl (lv_at hl 0 rfl) ?_
  refine lv_iconst (v := (2 : Int32)) hx hb dL_law_840 (by decide) ?_
  refine lv_iadd hx hb dL_law_841 ?_
  rw [show nI (5 * k) + (2 : Int32) = nI (5 * k + 2) from nI_add _ 2]
  refine law_sld hx hb hX hbl hbA hS (by omega) C.1 dL_law_842 ?_
  refine law_cl (Wd := WM q am) (En := mE D q) (z := zm) (As := [.int (xs (5 * k + 1)), .int (xs (5 * k + 2))]) (rest := [.long r1]) (mE_G D q (lAm am)) C.S (kX8_luck l D q am (lAm am) C.Dm zm (xs (5 * k + 1)) (xs (5 * k + 2)) _ hp) (cwV 2 hts (cW_V (fun _ h => tG_tbl h) tw_co_X8_luck tw_ml_L_114 tw_im_X8_luck tw_se_X8_luck tw_in_X8) rfl rfl rfl (by decide +kernel) ⟨by decide, by decide⟩) (va_recv hK hPm1 (ci := 8) (q0 := 0) rfl (wm_0 q am zm)) (C.Em hS1) hPm1 hS1 C.Am rfl hl.1 rfl (Nat.le_of_ble_eq_true rfl) dL_law_843 hcs (fun r2 zm1 H2 locs2 hp2 hPm2 hk2 hS2 => ?_)
  have hPx2 := C.Px hPx1 hk2
  refine W.lcmp hx hb dL_law_846 ?_
  refine lv_if_eq (tgt := 1238) hx hb dL_law_847 (by decide) (fun _ => ?_) (fun w => absurd ((lc_eq _ _).mpr hp2.1) w)
  exact nx zx1 zm1 H2 locs2 ls hp2.2 hPx2 hPm2 hS2 hl
set_option maxHeartbeats 4000000 in
set_option maxRecDepth 100000 in
theorem law_24 (C : LC p s m meth c b L xs D q ad am cs ss) {k : Nat} (hk : 5 * k + 5 ≤ L) (nx : LH p l e s m below meth c b D q ad am cs ss Q 1238 (nI (5 * k))) : LH p l e s m below meth c b D q ad am cs ss Q 852 (nI (5 * k)) := by
  intro zx zm H locs ls hR hPx hPm hS hl
  obtain ⟨hx, hb, hr, hml, hown, hts, hX, hbl, hlocks, hgv⟩ := C.2.1
  have hK := C.2.2.1
  have hcs : cs ≤ room_1.cells ∧ ss ≤ room_1.slots := ⟨C.2.2.2.2.2.2.2.2.2.1, C.2.2.2.2.2.2.2.2.2.2⟩
  have hbA : ¬ s.heap.size ≤ b := Nat.not_le.mpr hbl
  have hL := C.1
  refine lv_aload_n hx hb dL_law_852 rfl (lv_at hl 2 rfl) ?_
  refine lv_aload_n hx hb dL_law_853 rfl (lv_at hl 3 rfl) ?_
  refine lv_iload_n hx hb dL_law_854 rfl (lv_at hl 0 rfl) ?_
  refine lv_iconst (v := (1 : Int32)) hx hb dL_law_855 (by decide) ?_
  refine lv_iadd hx hb dL_law_856 ?_
  rw [show nI (5 * k) + (1 : Int32) = nI (5 * k + 1) from nI_add _ 1]
  refine law_sld hx hb hX hbl hbA hS (by omega) C.1 dL_law_857 ?_
  refine lv_aload_n hx hb dL_law_858 rfl (lv_at hl 3 rfl) ?_
  refine lv_iload_n hx hb dL_law_859 rfl (lv_at hl 0 rfl) ?_
  refine lv_iconst (v := (2 : Int32)) hx hb dL_law_860 (by decide) ?_
  refine lv_iadd hx hb dL_law_861 ?_
  rw [show nI (5 * k) + (2 : Int32) = nI (5 * k + 2) from nI_add _ 2]
  refine law_sld hx hb hX hbl hbA hS (by omega) C.1 dL_law_862 ?_
  refine lv_aload_n hx hb dL_law_863 rfl (lv_at hl 3 rfl) ?_
  refine lv_iload_n hx hb dL_law_864 rfl (lv_at hl 0 rfl) ?_
  refine lv_iconst (v := (3 : Int32)) hx hb dL_law_865 (by decide) ?_
  refine lv_iadd hx hb dL_law_866 ?_
  rw [show nI (5 * k) + (3 : Int32) = nI (5 * k + 3) from nI_add _ 3]
  refine law_sld hx hb hX hbl hbA hS (by omega) C.1 dL_law_867 ?_
  refine law_ci (Wd := WX q ad) (En := xE D q ad (lAx ad)) (z := zx) (As := [.int (xs (5 * k + 1)), .int (xs (5 * k + 2)), .int (xs (5 * k + 3))]) (rest := []) (xE_G D q ad (lAx ad)) C.S (kX7_see l D q ad (lAx ad) C.Dx zx (xs (5 * k + 1)) (xs (5 * k + 2)) (xs (5 * k + 3)) _ (q_see hR (xs (5 * k + 1)) (xs (5 * k + 2)) (xs (5 * k + 3)))) (cwV 3 hts (cW_V (fun _ h => tG_tbl h) tw_co_X7_see tw_ml_L_115 tw_im_X7_see tw_se_X7_see tw_in_X7) rfl rfl rfl (by decide +kernel) ⟨by decide, by decide⟩) (va_recv hK hPx (ci := 7) (q0 := 38) rfl (wx_38 q ad zx)) (C.Ex hS) hPx hS C.Ax rfl hl.1 rfl (Nat.le_of_ble_eq_true rfl) dL_law_868 hcs (fun r1 zx1 H1 locs1 hp hPx1 hk1 hS1 => ?_)
  have hPm1 := C.Pm hPm hk1
  clear hk1
  have hS := hS1
  refine lv_aload_n hx hb dL_law_871 rfl (lv_at hl 1 rfl) ?_
  refine lv_aload_n hx hb dL_law_872 rfl (lv_at hl 3 rfl) ?_
  refine lv_iload_n hx hb dL_law_873 rfl (lv_at hl 0 rfl) ?_
  refine lv_iconst (v := (1 : Int32)) hx hb dL_law_874 (by decide) ?_
  refine lv_iadd hx hb dL_law_875 ?_
  rw [show nI (5 * k) + (1 : Int32) = nI (5 * k + 1) from nI_add _ 1]
  refine law_sld hx hb hX hbl hbA hS (by omega) C.1 dL_law_876 ?_
  refine lv_aload_n hx hb dL_law_877 rfl (lv_at hl 3 rfl) ?_
  refine lv_iload_n hx hb dL_law_878 rfl (lv_at hl 0 rfl) ?_
  refine lv_iconst (v := (2 : Int32)) hx hb dL_law_879 (by decide) ?_
  refine lv_iadd hx hb dL_law_880 ?_
  rw [show nI (5 * k) + (2 : Int32) = nI (5 * k + 2) from nI_add _ 2]
  refine law_sld hx hb hX hbl hbA hS (by omega) C.1 dL_law_881 ?_
  refine lv_aload_n hx hb dL_law_882 rfl (lv_at hl 3 rfl) ?_
  refine lv_iload_n hx hb dL_law_883 rfl (lv_at hl 0 rfl) ?_
  refine lv_iconst (v := (3 : Int32)) hx hb dL_law_884 (by decide) ?_
  refine lv_iadd hx hb dL_law_885 ?_
  rw [show nI (5 * k) + (3 : Int32) = nI (5 * k + 3) from nI_add _ 3]
  refine law_sld hx hb hX hbl hbA hS (by omega) C.1 dL_law_886 ?_
  refine law_ci (Wd := WM q am) (En := mE D q) (z := zm) (As := [.int (xs (5 * k + 1)), .int (xs (5 * k + 2)), .int (xs (5 * k + 3))]) (rest := [.int r1]) (mE_G D q (lAm am)) C.S (kX8_see l D q am (lAm am) C.Dm zm (xs (5 * k + 1)) (xs (5 * k + 2)) (xs (5 * k + 3)) _ hp) (cwV 3 hts (cW_V (fun _ h => tG_tbl h) tw_co_X8_see tw_ml_L_118 tw_im_X8_see tw_se_X8_see tw_in_X8) rfl rfl rfl (by decide +kernel) ⟨by decide, by decide⟩) (va_recv hK hPm1 (ci := 8) (q0 := 0) rfl (wm_0 q am zm)) (C.Em hS1) hPm1 hS1 C.Am rfl hl.1 rfl (Nat.le_of_ble_eq_true rfl) dL_law_887 hcs (fun r2 zm1 H2 locs2 hp2 hPm2 hk2 hS2 => ?_)
  have hPx2 := C.Px hPx1 hk2
  refine lv_icmp_eq (tgt := 1238) hx hb dL_law_890 (by decide) (fun _ => ?_) (fun w => absurd hp2.1 w)
  exact nx zx1 zm1 H2 locs2 ls hp2.2 hPx2 hPm2 hS2 hl
set_option maxHeartbeats 4000000 in
set_option maxRecDepth 100000 in
theorem law_25 (C : LC p s m meth c b L xs D q ad am cs ss) {k : Nat} (hk : 5 * k + 5 ≤ L) (nx : LH p l e s m below meth c b D q ad am cs ss Q 1238 (nI (5 * k))) : LH p l e s m below meth c b D q ad am cs ss Q 895 (nI (5 * k)) := by
  intro zx zm H locs ls hR hPx hPm hS hl
  obtain ⟨hx, hb, hr, hml, hown, hts, hX, hbl, hlocks, hgv⟩ := C.2.1
  have hK := C.2.2.1
  have hcs : cs ≤ room_1.cells ∧ ss ≤ room_1.slots := ⟨C.2.2.2.2.2.2.2.2.2.1, C.2.2.2.2.2.2.2.2.2.2⟩
  have hbA : ¬ s.heap.size ≤ b := Nat.not_le.mpr hbl
  have hL := C.1
  refine lv_aload_n hx hb dL_law_895 rfl (lv_at hl 2 rfl) ?_
  refine lv_aload_n hx hb dL_law_896 rfl (lv_at hl 3 rfl) ?_
  refine lv_iload_n hx hb dL_law_897 rfl (lv_at hl 0 rfl) ?_
  refine lv_iconst (v := (1 : Int32)) hx hb dL_law_898 (by decide) ?_
  refine lv_iadd hx hb dL_law_899 ?_
  rw [show nI (5 * k) + (1 : Int32) = nI (5 * k + 1) from nI_add _ 1]
  refine law_sld hx hb hX hbl hbA hS (by omega) C.1 dL_law_900 ?_
  refine law_ci (Wd := WX q ad) (En := xE D q ad (lAx ad)) (z := zx) (As := [.int (xs (5 * k + 1))]) (rest := []) (xE_G D q ad (lAx ad)) C.S (kX7_forget l D q ad (lAx ad) C.Dx zx (xs (5 * k + 1)) _ (q_forget hR (xs (5 * k + 1)))) (cwV 1 hts (cW_V (fun _ h => tG_tbl h) tw_co_X7_forget tw_ml_L_119 tw_im_X7_forget tw_se_X7_forget tw_in_X7) rfl rfl rfl (by decide +kernel) ⟨by decide, by decide⟩) (va_recv hK hPx (ci := 7) (q0 := 38) rfl (wx_38 q ad zx)) (C.Ex hS) hPx hS C.Ax rfl hl.1 rfl (Nat.le_of_ble_eq_true rfl) dL_law_901 hcs (fun r1 zx1 H1 locs1 hp hPx1 hk1 hS1 => ?_)
  have hPm1 := C.Pm hPm hk1
  clear hk1
  have hS := hS1
  refine lv_aload_n hx hb dL_law_904 rfl (lv_at hl 1 rfl) ?_
  refine lv_aload_n hx hb dL_law_905 rfl (lv_at hl 3 rfl) ?_
  refine lv_iload_n hx hb dL_law_906 rfl (lv_at hl 0 rfl) ?_
  refine lv_iconst (v := (1 : Int32)) hx hb dL_law_907 (by decide) ?_
  refine lv_iadd hx hb dL_law_908 ?_
  rw [show nI (5 * k) + (1 : Int32) = nI (5 * k + 1) from nI_add _ 1]
  refine law_sld hx hb hX hbl hbA hS (by omega) C.1 dL_law_909 ?_
  refine law_ci (Wd := WM q am) (En := mE D q) (z := zm) (As := [.int (xs (5 * k + 1))]) (rest := [.int r1]) (mE_G D q (lAm am)) C.S (kX8_forget l D q am (lAm am) C.Dm zm (xs (5 * k + 1)) _ hp) (cwV 1 hts (cW_V (fun _ h => tG_tbl h) tw_co_X8_forget tw_ml_L_122 tw_im_X8_forget tw_se_X8_forget tw_in_X8) rfl rfl rfl (by decide +kernel) ⟨by decide, by decide⟩) (va_recv hK hPm1 (ci := 8) (q0 := 0) rfl (wm_0 q am zm)) (C.Em hS1) hPm1 hS1 C.Am rfl hl.1 rfl (Nat.le_of_ble_eq_true rfl) dL_law_910 hcs (fun r2 zm1 H2 locs2 hp2 hPm2 hk2 hS2 => ?_)
  have hPx2 := C.Px hPx1 hk2
  refine lv_icmp_eq (tgt := 1238) hx hb dL_law_913 (by decide) (fun _ => ?_) (fun w => absurd hp2.1 w)
  exact nx zx1 zm1 H2 locs2 ls hp2.2 hPx2 hPm2 hS2 hl
set_option maxHeartbeats 4000000 in
set_option maxRecDepth 100000 in
theorem law_26 (C : LC p s m meth c b L xs D q ad am cs ss) {k : Nat} (hk : 5 * k + 5 ≤ L) (nx : LH p l e s m below meth c b D q ad am cs ss Q 1238 (nI (5 * k))) : LH p l e s m below meth c b D q ad am cs ss Q 918 (nI (5 * k)) := by
  intro zx zm H locs ls hR hPx hPm hS hl
  obtain ⟨hx, hb, hr, hml, hown, hts, hX, hbl, hlocks, hgv⟩ := C.2.1
  have hK := C.2.2.1
  have hcs : cs ≤ room_1.cells ∧ ss ≤ room_1.slots := ⟨C.2.2.2.2.2.2.2.2.2.1, C.2.2.2.2.2.2.2.2.2.2⟩
  have hbA : ¬ s.heap.size ≤ b := Nat.not_le.mpr hbl
  have hL := C.1
  refine lv_aload_n hx hb dL_law_918 rfl (lv_at hl 2 rfl) ?_
  refine lv_aload_n hx hb dL_law_919 rfl (lv_at hl 3 rfl) ?_
  refine lv_iload_n hx hb dL_law_920 rfl (lv_at hl 0 rfl) ?_
  refine lv_iconst (v := (1 : Int32)) hx hb dL_law_921 (by decide) ?_
  refine lv_iadd hx hb dL_law_922 ?_
  rw [show nI (5 * k) + (1 : Int32) = nI (5 * k + 1) from nI_add _ 1]
  refine law_sld hx hb hX hbl hbA hS (by omega) C.1 dL_law_923 ?_
  refine law_ci (Wd := WX q ad) (En := xE D q ad (lAx ad)) (z := zx) (As := [.int (xs (5 * k + 1))]) (rest := []) (xE_G D q ad (lAx ad)) C.S (kX7_fits l D q ad (lAx ad) C.Dx zx (xs (5 * k + 1)) _ (q_fits hR (xs (5 * k + 1)))) (cwV 1 hts (cW_V (fun _ h => tG_tbl h) tw_co_X7_fits tw_ml_L_123 tw_im_X7_fits tw_se_X7_fits tw_in_X7) rfl rfl rfl (by decide +kernel) ⟨by decide, by decide⟩) (va_recv hK hPx (ci := 7) (q0 := 38) rfl (wx_38 q ad zx)) (C.Ex hS) hPx hS C.Ax rfl hl.1 rfl (Nat.le_of_ble_eq_true rfl) dL_law_924 hcs (fun r1 zx1 H1 locs1 hp hPx1 hk1 hS1 => ?_)
  have hPm1 := C.Pm hPm hk1
  clear hk1
  have hS := hS1
  refine lv_aload_n hx hb dL_law_927 rfl (lv_at hl 1 rfl) ?_
  refine lv_aload_n hx hb dL_law_928 rfl (lv_at hl 3 rfl) ?_
  refine lv_iload_n hx hb dL_law_929 rfl (lv_at hl 0 rfl) ?_
  refine lv_iconst (v := (1 : Int32)) hx hb dL_law_930 (by decide) ?_
  refine lv_iadd hx hb dL_law_931 ?_
  rw [show nI (5 * k) + (1 : Int32) = nI (5 * k + 1) from nI_add _ 1]
  refine law_sld hx hb hX hbl hbA hS (by omega) C.1 dL_law_932 ?_
  refine law_ci (Wd := WM q am) (En := mE D q) (z := zm) (As := [.int (xs (5 * k + 1))]) (rest := [.int r1]) (mE_G D q (lAm am)) C.S (kX8_fits l D q am (lAm am) C.Dm zm (xs (5 * k + 1)) _ hp) (cwV 1 hts (cW_V (fun _ h => tG_tbl h) tw_co_X8_fits tw_ml_L_126 tw_im_X8_fits tw_se_X8_fits tw_in_X8) rfl rfl rfl (by decide +kernel) ⟨by decide, by decide⟩) (va_recv hK hPm1 (ci := 8) (q0 := 0) rfl (wm_0 q am zm)) (C.Em hS1) hPm1 hS1 C.Am rfl hl.1 rfl (Nat.le_of_ble_eq_true rfl) dL_law_933 hcs (fun r2 zm1 H2 locs2 hp2 hPm2 hk2 hS2 => ?_)
  have hPx2 := C.Px hPx1 hk2
  refine lv_icmp_eq (tgt := 1238) hx hb dL_law_936 (by decide) (fun _ => ?_) (fun w => absurd hp2.1 w)
  exact nx zx1 zm1 H2 locs2 ls hp2.2 hPx2 hPm2 hS2 hl
set_option maxHeartbeats 4000000 in
set_option maxRecDepth 100000 in
theorem law_27 (C : LC p s m meth c b L xs D q ad am cs ss) {k : Nat} (hk : 5 * k + 5 ≤ L) (nx : LH p l e s m below meth c b D q ad am cs ss Q 1238 (nI (5 * k))) : LH p l e s m below meth c b D q ad am cs ss Q 941 (nI (5 * k)) := by
  intro zx zm H locs ls hR hPx hPm hS hl
  obtain ⟨hx, hb, hr, hml, hown, hts, hX, hbl, hlocks, hgv⟩ := C.2.1
  have hK := C.2.2.1
  have hcs : cs ≤ room_1.cells ∧ ss ≤ room_1.slots := ⟨C.2.2.2.2.2.2.2.2.2.1, C.2.2.2.2.2.2.2.2.2.2⟩
  have hbA : ¬ s.heap.size ≤ b := Nat.not_le.mpr hbl
  have hL := C.1
  refine lv_aload_n hx hb dL_law_941 rfl (lv_at hl 2 rfl) ?_
  refine lv_aload_n hx hb dL_law_942 rfl (lv_at hl 3 rfl) ?_
  refine lv_iload_n hx hb dL_law_943 rfl (lv_at hl 0 rfl) ?_
  refine lv_iconst (v := (1 : Int32)) hx hb dL_law_944 (by decide) ?_
  refine lv_iadd hx hb dL_law_945 ?_
  rw [show nI (5 * k) + (1 : Int32) = nI (5 * k + 1) from nI_add _ 1]
  refine law_sld hx hb hX hbl hbA hS (by omega) C.1 dL_law_946 ?_
  refine lv_aload_n hx hb dL_law_947 rfl (lv_at hl 3 rfl) ?_
  refine lv_iload_n hx hb dL_law_948 rfl (lv_at hl 0 rfl) ?_
  refine lv_iconst (v := (2 : Int32)) hx hb dL_law_949 (by decide) ?_
  refine lv_iadd hx hb dL_law_950 ?_
  rw [show nI (5 * k) + (2 : Int32) = nI (5 * k + 2) from nI_add _ 2]
  refine law_sld hx hb hX hbl hbA hS (by omega) C.1 dL_law_951 ?_
  refine law_ci (Wd := WX q ad) (En := xE D q ad (lAx ad)) (z := zx) (As := [.int (xs (5 * k + 1)), .int (xs (5 * k + 2))]) (rest := []) (xE_G D q ad (lAx ad)) C.S (kX7_look l D q ad (lAx ad) C.Dx zx (xs (5 * k + 1)) (xs (5 * k + 2)) _ (q_look hR (xs (5 * k + 1)) (xs (5 * k + 2)))) (cwV 2 hts (cW_V (fun _ h => tG_tbl h) tw_co_X7_look tw_ml_L_127 tw_im_X7_look tw_se_X7_look tw_in_X7) rfl rfl rfl (by decide +kernel) ⟨by decide, by decide⟩) (va_recv hK hPx (ci := 7) (q0 := 38) rfl (wx_38 q ad zx)) (C.Ex hS) hPx hS C.Ax rfl hl.1 rfl (Nat.le_of_ble_eq_true rfl) dL_law_952 hcs (fun r1 zx1 H1 locs1 hp hPx1 hk1 hS1 => ?_)
  have hPm1 := C.Pm hPm hk1
  clear hk1
  have hS := hS1
  refine lv_aload_n hx hb dL_law_955 rfl (lv_at hl 1 rfl) ?_
  refine lv_aload_n hx hb dL_law_956 rfl (lv_at hl 3 rfl) ?_
  refine lv_iload_n hx hb dL_law_957 rfl (lv_at hl 0 rfl) ?_
  refine lv_iconst (v := (1 : Int32)) hx hb dL_law_958 (by decide) ?_
  refine lv_iadd hx hb dL_law_959 ?_
  rw [show nI (5 * k) + (1 : Int32) = nI (5 * k + 1) from nI_add _ 1]
  refine law_sld hx hb hX hbl hbA hS (by omega) C.1 dL_law_960 ?_
  refine lv_aload_n hx hb dL_law_961 rfl (lv_at hl 3 rfl) ?_
  refine lv_iload_n hx hb dL_law_962 rfl (lv_at hl 0 rfl) ?_
  refine lv_iconst (v := (2 : Int32)) hx hb dL_law_963 (by decide) ?_
  refine lv_iadd hx hb dL_law_964 ?_
  rw [show nI (5 * k) + (2 : Int32) = nI (5 * k + 2) from nI_add _ 2]
  refine law_sld hx hb hX hbl hbA hS (by omega) C.1 dL_law_965 ?_
  refine law_ci (Wd := WM q am) (En := mE D q) (z := zm) (As := [.int (xs (5 * k + 1)), .int (xs (5 * k + 2))]) (rest := [.int r1]) (mE_G D q (lAm am)) C.S (kX8_look l D q am (lAm am) C.Dm zm (xs (5 * k + 1)) (xs (5 * k + 2)) _ hp) (cwV 2 hts (cW_V (fun _ h => tG_tbl h) tw_co_X8_look tw_ml_L_130 tw_im_X8_look tw_se_X8_look tw_in_X8) rfl rfl rfl (by decide +kernel) ⟨by decide, by decide⟩) (va_recv hK hPm1 (ci := 8) (q0 := 0) rfl (wm_0 q am zm)) (C.Em hS1) hPm1 hS1 C.Am rfl hl.1 rfl (Nat.le_of_ble_eq_true rfl) dL_law_966 hcs (fun r2 zm1 H2 locs2 hp2 hPm2 hk2 hS2 => ?_)
  have hPx2 := C.Px hPx1 hk2
  refine lv_icmp_eq (tgt := 1238) hx hb dL_law_969 (by decide) (fun _ => ?_) (fun w => absurd hp2.1 w)
  exact nx zx1 zm1 H2 locs2 ls hp2.2 hPx2 hPm2 hS2 hl
set_option maxHeartbeats 4000000 in
set_option maxRecDepth 100000 in
theorem law_28 (C : LC p s m meth c b L xs D q ad am cs ss) {k : Nat} (hk : 5 * k + 5 ≤ L) (nx : LH p l e s m below meth c b D q ad am cs ss Q 1238 (nI (5 * k))) : LH p l e s m below meth c b D q ad am cs ss Q 974 (nI (5 * k)) := by
  intro zx zm H locs ls hR hPx hPm hS hl
  obtain ⟨hx, hb, hr, hml, hown, hts, hX, hbl, hlocks, hgv⟩ := C.2.1
  have hK := C.2.2.1
  have hcs : cs ≤ room_1.cells ∧ ss ≤ room_1.slots := ⟨C.2.2.2.2.2.2.2.2.2.1, C.2.2.2.2.2.2.2.2.2.2⟩
  have hbA : ¬ s.heap.size ≤ b := Nat.not_le.mpr hbl
  have hL := C.1
  refine lv_aload_n hx hb dL_law_974 rfl (lv_at hl 2 rfl) ?_
  refine lv_aload_n hx hb dL_law_975 rfl (lv_at hl 3 rfl) ?_
  refine lv_iload_n hx hb dL_law_976 rfl (lv_at hl 0 rfl) ?_
  refine lv_iconst (v := (1 : Int32)) hx hb dL_law_977 (by decide) ?_
  refine lv_iadd hx hb dL_law_978 ?_
  rw [show nI (5 * k) + (1 : Int32) = nI (5 * k + 1) from nI_add _ 1]
  refine law_sld hx hb hX hbl hbA hS (by omega) C.1 dL_law_979 ?_
  refine lv_aload_n hx hb dL_law_980 rfl (lv_at hl 3 rfl) ?_
  refine lv_iload_n hx hb dL_law_981 rfl (lv_at hl 0 rfl) ?_
  refine lv_iconst (v := (2 : Int32)) hx hb dL_law_982 (by decide) ?_
  refine lv_iadd hx hb dL_law_983 ?_
  rw [show nI (5 * k) + (2 : Int32) = nI (5 * k + 2) from nI_add _ 2]
  refine law_sld hx hb hX hbl hbA hS (by omega) C.1 dL_law_984 ?_
  refine lv_aload_n hx hb dL_law_985 rfl (lv_at hl 3 rfl) ?_
  refine lv_iload_n hx hb dL_law_986 rfl (lv_at hl 0 rfl) ?_
  refine lv_iconst (v := (3 : Int32)) hx hb dL_law_987 (by decide) ?_
  refine lv_iadd hx hb dL_law_988 ?_
  rw [show nI (5 * k) + (3 : Int32) = nI (5 * k + 3) from nI_add _ 3]
  refine law_sld hx hb hX hbl hbA hS (by omega) C.1 dL_law_989 ?_
  refine law_ci (Wd := WX q ad) (En := xE D q ad (lAx ad)) (z := zx) (As := [.int (xs (5 * k + 1)), .int (xs (5 * k + 2)), .int (xs (5 * k + 3))]) (rest := []) (xE_G D q ad (lAx ad)) C.S (kX7_drift l D q ad (lAx ad) C.Dx zx (xs (5 * k + 1)) (xs (5 * k + 2)) (xs (5 * k + 3)) _ (q_drift hR (xs (5 * k + 1)) (xs (5 * k + 2)) (xs (5 * k + 3)))) (cwV 3 hts (cW_V (fun _ h => tG_tbl h) tw_co_X7_drift tw_ml_L_131 tw_im_X7_drift tw_se_X7_drift tw_in_X7) rfl rfl rfl (by decide +kernel) ⟨by decide, by decide⟩) (va_recv hK hPx (ci := 7) (q0 := 38) rfl (wx_38 q ad zx)) (C.Ex hS) hPx hS C.Ax rfl hl.1 rfl (Nat.le_of_ble_eq_true rfl) dL_law_990 hcs (fun r1 zx1 H1 locs1 hp hPx1 hk1 hS1 => ?_)
  have hPm1 := C.Pm hPm hk1
  clear hk1
  have hS := hS1
  refine lv_aload_n hx hb dL_law_993 rfl (lv_at hl 1 rfl) ?_
  refine lv_aload_n hx hb dL_law_994 rfl (lv_at hl 3 rfl) ?_
  refine lv_iload_n hx hb dL_law_995 rfl (lv_at hl 0 rfl) ?_
  refine lv_iconst (v := (1 : Int32)) hx hb dL_law_996 (by decide) ?_
  refine lv_iadd hx hb dL_law_997 ?_
  rw [show nI (5 * k) + (1 : Int32) = nI (5 * k + 1) from nI_add _ 1]
  refine law_sld hx hb hX hbl hbA hS (by omega) C.1 dL_law_998 ?_
  refine lv_aload_n hx hb dL_law_999 rfl (lv_at hl 3 rfl) ?_
  refine lv_iload_n hx hb dL_law_1000 rfl (lv_at hl 0 rfl) ?_
  refine lv_iconst (v := (2 : Int32)) hx hb dL_law_1001 (by decide) ?_
  refine lv_iadd hx hb dL_law_1002 ?_
  rw [show nI (5 * k) + (2 : Int32) = nI (5 * k + 2) from nI_add _ 2]
  refine law_sld hx hb hX hbl hbA hS (by omega) C.1 dL_law_1003 ?_
  refine lv_aload_n hx hb dL_law_1004 rfl (lv_at hl 3 rfl) ?_
  refine lv_iload_n hx hb dL_law_1005 rfl (lv_at hl 0 rfl) ?_
  refine lv_iconst (v := (3 : Int32)) hx hb dL_law_1006 (by decide) ?_
  refine lv_iadd hx hb dL_law_1007 ?_
  rw [show nI (5 * k) + (3 : Int32) = nI (5 * k + 3) from nI_add _ 3]
  refine law_sld hx hb hX hbl hbA hS (by omega) C.1 dL_law_1008 ?_
  refine law_ci (Wd := WM q am) (En := mE D q) (z := zm) (As := [.int (xs (5 * k + 1)), .int (xs (5 * k + 2)), .int (xs (5 * k + 3))]) (rest := [.int r1]) (mE_G D q (lAm am)) C.S (kX8_drift l D q am (lAm am) C.Dm zm (xs (5 * k + 1)) (xs (5 * k + 2)) (xs (5 * k + 3)) _ hp) (cwV 3 hts (cW_V (fun _ h => tG_tbl h) tw_co_X8_drift tw_ml_L_134 tw_im_X8_drift tw_se_X8_drift tw_in_X8) rfl rfl rfl (by decide +kernel) ⟨by decide, by decide⟩) (va_recv hK hPm1 (ci := 8) (q0 := 0) rfl (wm_0 q am zm)) (C.Em hS1) hPm1 hS1 C.Am rfl hl.1 rfl (Nat.le_of_ble_eq_true rfl) dL_law_1009 hcs (fun r2 zm1 H2 locs2 hp2 hPm2 hk2 hS2 => ?_)
  have hPx2 := C.Px hPx1 hk2
  refine lv_icmp_eq (tgt := 1238) hx hb dL_law_1012 (by decide) (fun _ => ?_) (fun w => absurd hp2.1 w)
  exact nx zx1 zm1 H2 locs2 ls hp2.2 hPx2 hPm2 hS2 hl
set_option maxHeartbeats 4000000 in
set_option maxRecDepth 100000 in
theorem law_29 (C : LC p s m meth c b L xs D q ad am cs ss) {k : Nat} (hk : 5 * k + 5 ≤ L) (nx : LH p l e s m below meth c b D q ad am cs ss Q 1238 (nI (5 * k))) : LH p l e s m below meth c b D q ad am cs ss Q 1017 (nI (5 * k)) := by
  intro zx zm H locs ls hR hPx hPm hS hl
  obtain ⟨hx, hb, hr, hml, hown, hts, hX, hbl, hlocks, hgv⟩ := C.2.1
  have hK := C.2.2.1
  have hcs : cs ≤ room_1.cells ∧ ss ≤ room_1.slots := ⟨C.2.2.2.2.2.2.2.2.2.1, C.2.2.2.2.2.2.2.2.2.2⟩
  have hbA : ¬ s.heap.size ≤ b := Nat.not_le.mpr hbl
  have hL := C.1
  refine lv_aload_n hx hb dL_law_1017 rfl (lv_at hl 2 rfl) ?_
  refine lv_aload_n hx hb dL_law_1018 rfl (lv_at hl 3 rfl) ?_
  refine lv_iload_n hx hb dL_law_1019 rfl (lv_at hl 0 rfl) ?_
  refine lv_iconst (v := (1 : Int32)) hx hb dL_law_1020 (by decide) ?_
  refine lv_iadd hx hb dL_law_1021 ?_
  rw [show nI (5 * k) + (1 : Int32) = nI (5 * k + 1) from nI_add _ 1]
  refine law_sld hx hb hX hbl hbA hS (by omega) C.1 dL_law_1022 ?_
  refine law_ci (Wd := WX q ad) (En := xE D q ad (lAx ad)) (z := zx) (As := [.int (xs (5 * k + 1))]) (rest := []) (xE_G D q ad (lAx ad)) C.S (kX7_keep l D q ad (lAx ad) C.Dx zx (xs (5 * k + 1)) _ (q_keep hR (xs (5 * k + 1)))) (cwV 1 hts (cW_V (fun _ h => tG_tbl h) tw_co_X7_keep tw_ml_L_135 tw_im_X7_keep tw_se_X7_keep tw_in_X7) rfl rfl rfl (by decide +kernel) ⟨by decide, by decide⟩) (va_recv hK hPx (ci := 7) (q0 := 38) rfl (wx_38 q ad zx)) (C.Ex hS) hPx hS C.Ax rfl hl.1 rfl (Nat.le_of_ble_eq_true rfl) dL_law_1023 hcs (fun r1 zx1 H1 locs1 hp hPx1 hk1 hS1 => ?_)
  have hPm1 := C.Pm hPm hk1
  clear hk1
  have hS := hS1
  refine lv_aload_n hx hb dL_law_1026 rfl (lv_at hl 1 rfl) ?_
  refine lv_aload_n hx hb dL_law_1027 rfl (lv_at hl 3 rfl) ?_
  refine lv_iload_n hx hb dL_law_1028 rfl (lv_at hl 0 rfl) ?_
  refine lv_iconst (v := (1 : Int32)) hx hb dL_law_1029 (by decide) ?_
  refine lv_iadd hx hb dL_law_1030 ?_
  rw [show nI (5 * k) + (1 : Int32) = nI (5 * k + 1) from nI_add _ 1]
  refine law_sld hx hb hX hbl hbA hS (by omega) C.1 dL_law_1031 ?_
  refine law_ci (Wd := WM q am) (En := mE D q) (z := zm) (As := [.int (xs (5 * k + 1))]) (rest := [.int r1]) (mE_G D q (lAm am)) C.S (kX8_keep l D q am (lAm am) C.Dm zm (xs (5 * k + 1)) _ hp) (cwV 1 hts (cW_V (fun _ h => tG_tbl h) tw_co_X8_keep tw_ml_L_138 tw_im_X8_keep tw_se_X8_keep tw_in_X8) rfl rfl rfl (by decide +kernel) ⟨by decide, by decide⟩) (va_recv hK hPm1 (ci := 8) (q0 := 0) rfl (wm_0 q am zm)) (C.Em hS1) hPm1 hS1 C.Am rfl hl.1 rfl (Nat.le_of_ble_eq_true rfl) dL_law_1032 hcs (fun r2 zm1 H2 locs2 hp2 hPm2 hk2 hS2 => ?_)
  have hPx2 := C.Px hPx1 hk2
  refine lv_icmp_eq (tgt := 1238) hx hb dL_law_1035 (by decide) (fun _ => ?_) (fun w => absurd hp2.1 w)
  exact nx zx1 zm1 H2 locs2 ls hp2.2 hPx2 hPm2 hS2 hl
set_option maxHeartbeats 4000000 in
set_option maxRecDepth 100000 in
theorem law_30 (C : LC p s m meth c b L xs D q ad am cs ss) {k : Nat} (hk : 5 * k + 5 ≤ L) (nx : LH p l e s m below meth c b D q ad am cs ss Q 1238 (nI (5 * k))) : LH p l e s m below meth c b D q ad am cs ss Q 1040 (nI (5 * k)) := by
  intro zx zm H locs ls hR hPx hPm hS hl
  obtain ⟨hx, hb, hr, hml, hown, hts, hX, hbl, hlocks, hgv⟩ := C.2.1
  have hK := C.2.2.1
  have hcs : cs ≤ room_1.cells ∧ ss ≤ room_1.slots := ⟨C.2.2.2.2.2.2.2.2.2.1, C.2.2.2.2.2.2.2.2.2.2⟩
  have hbA : ¬ s.heap.size ≤ b := Nat.not_le.mpr hbl
  have hL := C.1
  refine lv_aload_n hx hb dL_law_1040 rfl (lv_at hl 2 rfl) ?_
  refine lv_aload_n hx hb dL_law_1041 rfl (lv_at hl 3 rfl) ?_
  refine lv_iload_n hx hb dL_law_1042 rfl (lv_at hl 0 rfl) ?_
  refine lv_iconst (v := (1 : Int32)) hx hb dL_law_1043 (by decide) ?_
  refine lv_iadd hx hb dL_law_1044 ?_
  rw [show nI (5 * k) + (1 : Int32) = nI (5 * k + 1) from nI_add _ 1]
  refine law_sld hx hb hX hbl hbA hS (by omega) C.1 dL_law_1045 ?_
  refine law_ci (Wd := WX q ad) (En := xE D q ad (lAx ad)) (z := zx) (As := [.int (xs (5 * k + 1))]) (rest := []) (xE_G D q ad (lAx ad)) C.S (kX7_back l D q ad (lAx ad) C.Dx zx (xs (5 * k + 1)) _ (q_back hR (xs (5 * k + 1)))) (cwV 1 hts (cW_V (fun _ h => tG_tbl h) tw_co_X7_back tw_ml_L_139 tw_im_X7_back tw_se_X7_back tw_in_X7) rfl rfl rfl (by decide +kernel) ⟨by decide, by decide⟩) (va_recv hK hPx (ci := 7) (q0 := 38) rfl (wx_38 q ad zx)) (C.Ex hS) hPx hS C.Ax rfl hl.1 rfl (Nat.le_of_ble_eq_true rfl) dL_law_1046 hcs (fun r1 zx1 H1 locs1 hp hPx1 hk1 hS1 => ?_)
  have hPm1 := C.Pm hPm hk1
  clear hk1
  have hS := hS1
  refine lv_aload_n hx hb dL_law_1049 rfl (lv_at hl 1 rfl) ?_
  refine lv_aload_n hx hb dL_law_1050 rfl (lv_at hl 3 rfl) ?_
  refine lv_iload_n hx hb dL_law_1051 rfl (lv_at hl 0 rfl) ?_
  refine lv_iconst (v := (1 : Int32)) hx hb dL_law_1052 (by decide) ?_
  refine lv_iadd hx hb dL_law_1053 ?_
  rw [show nI (5 * k) + (1 : Int32) = nI (5 * k + 1) from nI_add _ 1]
  refine law_sld hx hb hX hbl hbA hS (by omega) C.1 dL_law_1054 ?_
  refine law_ci (Wd := WM q am) (En := mE D q) (z := zm) (As := [.int (xs (5 * k + 1))]) (rest := [.int r1]) (mE_G D q (lAm am)) C.S (kX8_back l D q am (lAm am) C.Dm zm (xs (5 * k + 1)) _ hp) (cwV 1 hts (cW_V (fun _ h => tG_tbl h) tw_co_X8_back tw_ml_L_142 tw_im_X8_back tw_se_X8_back tw_in_X8) rfl rfl rfl (by decide +kernel) ⟨by decide, by decide⟩) (va_recv hK hPm1 (ci := 8) (q0 := 0) rfl (wm_0 q am zm)) (C.Em hS1) hPm1 hS1 C.Am rfl hl.1 rfl (Nat.le_of_ble_eq_true rfl) dL_law_1055 hcs (fun r2 zm1 H2 locs2 hp2 hPm2 hk2 hS2 => ?_)
  have hPx2 := C.Px hPx1 hk2
  refine lv_icmp_eq (tgt := 1238) hx hb dL_law_1058 (by decide) (fun _ => ?_) (fun w => absurd hp2.1 w)
  exact nx zx1 zm1 H2 locs2 ls hp2.2 hPx2 hPm2 hS2 hl
set_option maxHeartbeats 4000000 in
set_option maxRecDepth 100000 in
theorem law_31 (C : LC p s m meth c b L xs D q ad am cs ss) {k : Nat} (hk : 5 * k + 5 ≤ L) (nx : LH p l e s m below meth c b D q ad am cs ss Q 1238 (nI (5 * k))) : LH p l e s m below meth c b D q ad am cs ss Q 1063 (nI (5 * k)) := by
  intro zx zm H locs ls hR hPx hPm hS hl
  obtain ⟨hx, hb, hr, hml, hown, hts, hX, hbl, hlocks, hgv⟩ := C.2.1
  have hK := C.2.2.1
  have hcs : cs ≤ room_1.cells ∧ ss ≤ room_1.slots := ⟨C.2.2.2.2.2.2.2.2.2.1, C.2.2.2.2.2.2.2.2.2.2⟩
  have hbA : ¬ s.heap.size ≤ b := Nat.not_le.mpr hbl
  have hL := C.1
  refine lv_aload_n hx hb dL_law_1063 rfl (lv_at hl 2 rfl) ?_
  refine lv_aload_n hx hb dL_law_1064 rfl (lv_at hl 3 rfl) ?_
  refine lv_iload_n hx hb dL_law_1065 rfl (lv_at hl 0 rfl) ?_
  refine lv_iconst (v := (1 : Int32)) hx hb dL_law_1066 (by decide) ?_
  refine lv_iadd hx hb dL_law_1067 ?_
  rw [show nI (5 * k) + (1 : Int32) = nI (5 * k + 1) from nI_add _ 1]
  refine law_sld hx hb hX hbl hbA hS (by omega) C.1 dL_law_1068 ?_
  refine lv_aload_n hx hb dL_law_1069 rfl (lv_at hl 3 rfl) ?_
  refine lv_iload_n hx hb dL_law_1070 rfl (lv_at hl 0 rfl) ?_
  refine lv_iconst (v := (2 : Int32)) hx hb dL_law_1071 (by decide) ?_
  refine lv_iadd hx hb dL_law_1072 ?_
  rw [show nI (5 * k) + (2 : Int32) = nI (5 * k + 2) from nI_add _ 2]
  refine law_sld hx hb hX hbl hbA hS (by omega) C.1 dL_law_1073 ?_
  refine lv_aload_n hx hb dL_law_1074 rfl (lv_at hl 3 rfl) ?_
  refine lv_iload_n hx hb dL_law_1075 rfl (lv_at hl 0 rfl) ?_
  refine lv_iconst (v := (3 : Int32)) hx hb dL_law_1076 (by decide) ?_
  refine lv_iadd hx hb dL_law_1077 ?_
  rw [show nI (5 * k) + (3 : Int32) = nI (5 * k + 3) from nI_add _ 3]
  refine law_sld hx hb hX hbl hbA hS (by omega) C.1 dL_law_1078 ?_
  refine law_ci (Wd := WX q ad) (En := xE D q ad (lAx ad)) (z := zx) (As := [.int (xs (5 * k + 1)), .int (xs (5 * k + 2)), .int (xs (5 * k + 3))]) (rest := []) (xE_G D q ad (lAx ad)) C.S (kX7_sheet l D q ad (lAx ad) C.Dx zx (xs (5 * k + 1)) (xs (5 * k + 2)) (xs (5 * k + 3)) _ (q_sheet hR (xs (5 * k + 1)) (xs (5 * k + 2)) (xs (5 * k + 3)))) (cwV 3 hts (cW_V (fun _ h => tG_tbl h) tw_co_X7_sheet tw_ml_L_143 tw_im_X7_sheet tw_se_X7_sheet tw_in_X7) rfl rfl rfl (by decide +kernel) ⟨by decide, by decide⟩) (va_recv hK hPx (ci := 7) (q0 := 38) rfl (wx_38 q ad zx)) (C.Ex hS) hPx hS C.Ax rfl hl.1 rfl (Nat.le_of_ble_eq_true rfl) dL_law_1079 hcs (fun r1 zx1 H1 locs1 hp hPx1 hk1 hS1 => ?_)
  have hPm1 := C.Pm hPm hk1
  clear hk1
  have hS := hS1
  refine lv_aload_n hx hb dL_law_1082 rfl (lv_at hl 1 rfl) ?_
  refine lv_aload_n hx hb dL_law_1083 rfl (lv_at hl 3 rfl) ?_
  refine lv_iload_n hx hb dL_law_1084 rfl (lv_at hl 0 rfl) ?_
  refine lv_iconst (v := (1 : Int32)) hx hb dL_law_1085 (by decide) ?_
  refine lv_iadd hx hb dL_law_1086 ?_
  rw [show nI (5 * k) + (1 : Int32) = nI (5 * k + 1) from nI_add _ 1]
  refine law_sld hx hb hX hbl hbA hS (by omega) C.1 dL_law_1087 ?_
  refine lv_aload_n hx hb dL_law_1088 rfl (lv_at hl 3 rfl) ?_
  refine lv_iload_n hx hb dL_law_1089 rfl (lv_at hl 0 rfl) ?_
  refine lv_iconst (v := (2 : Int32)) hx hb dL_law_1090 (by decide) ?_
  refine lv_iadd hx hb dL_law_1091 ?_
  rw [show nI (5 * k) + (2 : Int32) = nI (5 * k + 2) from nI_add _ 2]
  refine law_sld hx hb hX hbl hbA hS (by omega) C.1 dL_law_1092 ?_
  refine lv_aload_n hx hb dL_law_1093 rfl (lv_at hl 3 rfl) ?_
  refine lv_iload_n hx hb dL_law_1094 rfl (lv_at hl 0 rfl) ?_
  refine lv_iconst (v := (3 : Int32)) hx hb dL_law_1095 (by decide) ?_
  refine lv_iadd hx hb dL_law_1096 ?_
  rw [show nI (5 * k) + (3 : Int32) = nI (5 * k + 3) from nI_add _ 3]
  refine law_sld hx hb hX hbl hbA hS (by omega) C.1 dL_law_1097 ?_
  refine law_ci (Wd := WM q am) (En := mE D q) (z := zm) (As := [.int (xs (5 * k + 1)), .int (xs (5 * k + 2)), .int (xs (5 * k + 3))]) (rest := [.int r1]) (mE_G D q (lAm am)) C.S (kX8_sheet l D q am (lAm am) C.Dm zm (xs (5 * k + 1)) (xs (5 * k + 2)) (xs (5 * k + 3)) _ hp) (cwV 3 hts (cW_V (fun _ h => tG_tbl h) tw_co_X8_sheet tw_ml_L_146 tw_im_X8_sheet tw_se_X8_sheet tw_in_X8) rfl rfl rfl (by decide +kernel) ⟨by decide, by decide⟩) (va_recv hK hPm1 (ci := 8) (q0 := 0) rfl (wm_0 q am zm)) (C.Em hS1) hPm1 hS1 C.Am rfl hl.1 rfl (Nat.le_of_ble_eq_true rfl) dL_law_1098 hcs (fun r2 zm1 H2 locs2 hp2 hPm2 hk2 hS2 => ?_)
  have hPx2 := C.Px hPx1 hk2
  refine lv_icmp_eq (tgt := 1238) hx hb dL_law_1101 (by decide) (fun _ => ?_) (fun w => absurd hp2.1 w)
  exact nx zx1 zm1 H2 locs2 ls hp2.2 hPx2 hPm2 hS2 hl
set_option maxHeartbeats 4000000 in
set_option maxRecDepth 100000 in
theorem law_32 (C : LC p s m meth c b L xs D q ad am cs ss) {k : Nat} (hk : 5 * k + 5 ≤ L) (nx : LH p l e s m below meth c b D q ad am cs ss Q 1238 (nI (5 * k))) : LH p l e s m below meth c b D q ad am cs ss Q 1106 (nI (5 * k)) := by
  intro zx zm H locs ls hR hPx hPm hS hl
  obtain ⟨hx, hb, hr, hml, hown, hts, hX, hbl, hlocks, hgv⟩ := C.2.1
  have hK := C.2.2.1
  have hcs : cs ≤ room_1.cells ∧ ss ≤ room_1.slots := ⟨C.2.2.2.2.2.2.2.2.2.1, C.2.2.2.2.2.2.2.2.2.2⟩
  have hbA : ¬ s.heap.size ≤ b := Nat.not_le.mpr hbl
  have hL := C.1
  refine lv_aload_n hx hb dL_law_1106 rfl (lv_at hl 2 rfl) ?_
  refine lv_aload_n hx hb dL_law_1107 rfl (lv_at hl 3 rfl) ?_
  refine lv_iload_n hx hb dL_law_1108 rfl (lv_at hl 0 rfl) ?_
  refine lv_iconst (v := (1 : Int32)) hx hb dL_law_1109 (by decide) ?_
  refine lv_iadd hx hb dL_law_1110 ?_
  rw [show nI (5 * k) + (1 : Int32) = nI (5 * k + 1) from nI_add _ 1]
  refine law_sld hx hb hX hbl hbA hS (by omega) C.1 dL_law_1111 ?_
  refine lv_aload_n hx hb dL_law_1112 rfl (lv_at hl 3 rfl) ?_
  refine lv_iload_n hx hb dL_law_1113 rfl (lv_at hl 0 rfl) ?_
  refine lv_iconst (v := (2 : Int32)) hx hb dL_law_1114 (by decide) ?_
  refine lv_iadd hx hb dL_law_1115 ?_
  rw [show nI (5 * k) + (2 : Int32) = nI (5 * k + 2) from nI_add _ 2]
  refine law_sld hx hb hX hbl hbA hS (by omega) C.1 dL_law_1116 ?_
  refine lv_aload_n hx hb dL_law_1117 rfl (lv_at hl 3 rfl) ?_
  refine lv_iload_n hx hb dL_law_1118 rfl (lv_at hl 0 rfl) ?_
  refine lv_iconst (v := (3 : Int32)) hx hb dL_law_1119 (by decide) ?_
  refine lv_iadd hx hb dL_law_1120 ?_
  rw [show nI (5 * k) + (3 : Int32) = nI (5 * k + 3) from nI_add _ 3]
  refine law_sld hx hb hX hbl hbA hS (by omega) C.1 dL_law_1121 ?_
  refine law_ci (Wd := WX q ad) (En := xE D q ad (lAx ad)) (z := zx) (As := [.int (xs (5 * k + 1)), .int (xs (5 * k + 2)), .int (xs (5 * k + 3))]) (rest := []) (xE_G D q ad (lAx ad)) C.S (kX7_lay l D q ad (lAx ad) C.Dx zx (xs (5 * k + 1)) (xs (5 * k + 2)) (xs (5 * k + 3)) _ (q_lay hR (xs (5 * k + 1)) (xs (5 * k + 2)) (xs (5 * k + 3)))) (cwV 3 hts (cW_V (fun _ h => tG_tbl h) tw_co_X7_lay tw_ml_L_147 tw_im_X7_lay tw_se_X7_lay tw_in_X7) rfl rfl rfl (by decide +kernel) ⟨by decide, by decide⟩) (va_recv hK hPx (ci := 7) (q0 := 38) rfl (wx_38 q ad zx)) (C.Ex hS) hPx hS C.Ax rfl hl.1 rfl (Nat.le_of_ble_eq_true rfl) dL_law_1122 hcs (fun r1 zx1 H1 locs1 hp hPx1 hk1 hS1 => ?_)
  have hPm1 := C.Pm hPm hk1
  clear hk1
  have hS := hS1
  refine lv_aload_n hx hb dL_law_1125 rfl (lv_at hl 1 rfl) ?_
  refine lv_aload_n hx hb dL_law_1126 rfl (lv_at hl 3 rfl) ?_
  refine lv_iload_n hx hb dL_law_1127 rfl (lv_at hl 0 rfl) ?_
  refine lv_iconst (v := (1 : Int32)) hx hb dL_law_1128 (by decide) ?_
  refine lv_iadd hx hb dL_law_1129 ?_
  rw [show nI (5 * k) + (1 : Int32) = nI (5 * k + 1) from nI_add _ 1]
  refine law_sld hx hb hX hbl hbA hS (by omega) C.1 dL_law_1130 ?_
  refine lv_aload_n hx hb dL_law_1131 rfl (lv_at hl 3 rfl) ?_
  refine lv_iload_n hx hb dL_law_1132 rfl (lv_at hl 0 rfl) ?_
  refine lv_iconst (v := (2 : Int32)) hx hb dL_law_1133 (by decide) ?_
  refine lv_iadd hx hb dL_law_1134 ?_
  rw [show nI (5 * k) + (2 : Int32) = nI (5 * k + 2) from nI_add _ 2]
  refine law_sld hx hb hX hbl hbA hS (by omega) C.1 dL_law_1135 ?_
  refine lv_aload_n hx hb dL_law_1136 rfl (lv_at hl 3 rfl) ?_
  refine lv_iload_n hx hb dL_law_1137 rfl (lv_at hl 0 rfl) ?_
  refine lv_iconst (v := (3 : Int32)) hx hb dL_law_1138 (by decide) ?_
  refine lv_iadd hx hb dL_law_1139 ?_
  rw [show nI (5 * k) + (3 : Int32) = nI (5 * k + 3) from nI_add _ 3]
  refine law_sld hx hb hX hbl hbA hS (by omega) C.1 dL_law_1140 ?_
  refine law_ci (Wd := WM q am) (En := mE D q) (z := zm) (As := [.int (xs (5 * k + 1)), .int (xs (5 * k + 2)), .int (xs (5 * k + 3))]) (rest := [.int r1]) (mE_G D q (lAm am)) C.S (kX8_lay l D q am (lAm am) C.Dm zm (xs (5 * k + 1)) (xs (5 * k + 2)) (xs (5 * k + 3)) _ hp) (cwV 3 hts (cW_V (fun _ h => tG_tbl h) tw_co_X8_lay tw_ml_L_150 tw_im_X8_lay tw_se_X8_lay tw_in_X8) rfl rfl rfl (by decide +kernel) ⟨by decide, by decide⟩) (va_recv hK hPm1 (ci := 8) (q0 := 0) rfl (wm_0 q am zm)) (C.Em hS1) hPm1 hS1 C.Am rfl hl.1 rfl (Nat.le_of_ble_eq_true rfl) dL_law_1141 hcs (fun r2 zm1 H2 locs2 hp2 hPm2 hk2 hS2 => ?_)
  have hPx2 := C.Px hPx1 hk2
  refine lv_icmp_eq (tgt := 1238) hx hb dL_law_1144 (by decide) (fun _ => ?_) (fun w => absurd hp2.1 w)
  exact nx zx1 zm1 H2 locs2 ls hp2.2 hPx2 hPm2 hS2 hl
set_option maxHeartbeats 4000000 in
set_option maxRecDepth 100000 in
theorem law_33 (C : LC p s m meth c b L xs D q ad am cs ss) {k : Nat} (hk : 5 * k + 5 ≤ L) (nx : LH p l e s m below meth c b D q ad am cs ss Q 1238 (nI (5 * k))) : LH p l e s m below meth c b D q ad am cs ss Q 1149 (nI (5 * k)) := by
  intro zx zm H locs ls hR hPx hPm hS hl
  obtain ⟨hx, hb, hr, hml, hown, hts, hX, hbl, hlocks, hgv⟩ := C.2.1
  have hK := C.2.2.1
  have hcs : cs ≤ room_1.cells ∧ ss ≤ room_1.slots := ⟨C.2.2.2.2.2.2.2.2.2.1, C.2.2.2.2.2.2.2.2.2.2⟩
  have hbA : ¬ s.heap.size ≤ b := Nat.not_le.mpr hbl
  have hL := C.1
  refine lv_aload_n hx hb dL_law_1149 rfl (lv_at hl 2 rfl) ?_
  refine lv_aload_n hx hb dL_law_1150 rfl (lv_at hl 3 rfl) ?_
  refine lv_iload_n hx hb dL_law_1151 rfl (lv_at hl 0 rfl) ?_
  refine lv_iconst (v := (1 : Int32)) hx hb dL_law_1152 (by decide) ?_
  refine lv_iadd hx hb dL_law_1153 ?_
  rw [show nI (5 * k) + (1 : Int32) = nI (5 * k + 1) from nI_add _ 1]
  refine law_sld hx hb hX hbl hbA hS (by omega) C.1 dL_law_1154 ?_
  refine lv_aload_n hx hb dL_law_1155 rfl (lv_at hl 3 rfl) ?_
  refine lv_iload_n hx hb dL_law_1156 rfl (lv_at hl 0 rfl) ?_
  refine lv_iconst (v := (2 : Int32)) hx hb dL_law_1157 (by decide) ?_
  refine lv_iadd hx hb dL_law_1158 ?_
  rw [show nI (5 * k) + (2 : Int32) = nI (5 * k + 2) from nI_add _ 2]
  refine law_sld hx hb hX hbl hbA hS (by omega) C.1 dL_law_1159 ?_
  refine lv_aload_n hx hb dL_law_1160 rfl (lv_at hl 3 rfl) ?_
  refine lv_iload_n hx hb dL_law_1161 rfl (lv_at hl 0 rfl) ?_
  refine lv_iconst (v := (3 : Int32)) hx hb dL_law_1162 (by decide) ?_
  refine lv_iadd hx hb dL_law_1163 ?_
  rw [show nI (5 * k) + (3 : Int32) = nI (5 * k + 3) from nI_add _ 3]
  refine law_sld hx hb hX hbl hbA hS (by omega) C.1 dL_law_1164 ?_
  refine lv_aload_n hx hb dL_law_1165 rfl (lv_at hl 3 rfl) ?_
  refine lv_iload_n hx hb dL_law_1166 rfl (lv_at hl 0 rfl) ?_
  refine lv_iconst (v := (4 : Int32)) hx hb dL_law_1167 (by decide) ?_
  refine lv_iadd hx hb dL_law_1168 ?_
  rw [show nI (5 * k) + (4 : Int32) = nI (5 * k + 4) from nI_add _ 4]
  refine law_sld hx hb hX hbl hbA hS (by omega) C.1 dL_law_1169 ?_
  refine law_ci (Wd := WX q ad) (En := xE D q ad (lAx ad)) (z := zx) (As := [.int (xs (5 * k + 1)), .int (xs (5 * k + 2)), .int (xs (5 * k + 3)), .int (xs (5 * k + 4))]) (rest := []) (xE_G D q ad (lAx ad)) C.S (kX7_read l D q ad (lAx ad) C.Dx zx (xs (5 * k + 1)) (xs (5 * k + 2)) (xs (5 * k + 3)) (xs (5 * k + 4)) _ (q_read hR (xs (5 * k + 1)) (xs (5 * k + 2)) (xs (5 * k + 3)) (xs (5 * k + 4)))) (cwV 4 hts (cW_V (fun _ h => tG_tbl h) tw_co_X7_read tw_ml_L_151 tw_im_X7_read tw_se_X7_read tw_in_X7) rfl rfl rfl (by decide +kernel) ⟨by decide, by decide⟩) (va_recv hK hPx (ci := 7) (q0 := 38) rfl (wx_38 q ad zx)) (C.Ex hS) hPx hS C.Ax rfl hl.1 rfl (Nat.le_of_ble_eq_true rfl) dL_law_1170 hcs (fun r1 zx1 H1 locs1 hp hPx1 hk1 hS1 => ?_)
  have hPm1 := C.Pm hPm hk1
  clear hk1
  have hS := hS1
  refine lv_aload_n hx hb dL_law_1173 rfl (lv_at hl 1 rfl) ?_
  refine lv_aload_n hx hb dL_law_1174 rfl (lv_at hl 3 rfl) ?_
  refine lv_iload_n hx hb dL_law_1175 rfl (lv_at hl 0 rfl) ?_
  refine lv_iconst (v := (1 : Int32)) hx hb dL_law_1176 (by decide) ?_
  refine lv_iadd hx hb dL_law_1177 ?_
  rw [show nI (5 * k) + (1 : Int32) = nI (5 * k + 1) from nI_add _ 1]
  refine law_sld hx hb hX hbl hbA hS (by omega) C.1 dL_law_1178 ?_
  refine lv_aload_n hx hb dL_law_1179 rfl (lv_at hl 3 rfl) ?_
  refine lv_iload_n hx hb dL_law_1180 rfl (lv_at hl 0 rfl) ?_
  refine lv_iconst (v := (2 : Int32)) hx hb dL_law_1181 (by decide) ?_
  refine lv_iadd hx hb dL_law_1182 ?_
  rw [show nI (5 * k) + (2 : Int32) = nI (5 * k + 2) from nI_add _ 2]
  refine law_sld hx hb hX hbl hbA hS (by omega) C.1 dL_law_1183 ?_
  refine lv_aload_n hx hb dL_law_1184 rfl (lv_at hl 3 rfl) ?_
  refine lv_iload_n hx hb dL_law_1185 rfl (lv_at hl 0 rfl) ?_
  refine lv_iconst (v := (3 : Int32)) hx hb dL_law_1186 (by decide) ?_
  refine lv_iadd hx hb dL_law_1187 ?_
  rw [show nI (5 * k) + (3 : Int32) = nI (5 * k + 3) from nI_add _ 3]
  refine law_sld hx hb hX hbl hbA hS (by omega) C.1 dL_law_1188 ?_
  refine lv_aload_n hx hb dL_law_1189 rfl (lv_at hl 3 rfl) ?_
  refine lv_iload_n hx hb dL_law_1190 rfl (lv_at hl 0 rfl) ?_
  refine lv_iconst (v := (4 : Int32)) hx hb dL_law_1191 (by decide) ?_
  refine lv_iadd hx hb dL_law_1192 ?_
  rw [show nI (5 * k) + (4 : Int32) = nI (5 * k + 4) from nI_add _ 4]
  refine law_sld hx hb hX hbl hbA hS (by omega) C.1 dL_law_1193 ?_
  refine law_ci (Wd := WM q am) (En := mE D q) (z := zm) (As := [.int (xs (5 * k + 1)), .int (xs (5 * k + 2)), .int (xs (5 * k + 3)), .int (xs (5 * k + 4))]) (rest := [.int r1]) (mE_G D q (lAm am)) C.S (kX8_read l D q am (lAm am) C.Dm zm (xs (5 * k + 1)) (xs (5 * k + 2)) (xs (5 * k + 3)) (xs (5 * k + 4)) _ hp) (cwV 4 hts (cW_V (fun _ h => tG_tbl h) tw_co_X8_read tw_ml_L_155 tw_im_X8_read tw_se_X8_read tw_in_X8) rfl rfl rfl (by decide +kernel) ⟨by decide, by decide⟩) (va_recv hK hPm1 (ci := 8) (q0 := 0) rfl (wm_0 q am zm)) (C.Em hS1) hPm1 hS1 C.Am rfl hl.1 rfl (Nat.le_of_ble_eq_true rfl) dL_law_1194 hcs (fun r2 zm1 H2 locs2 hp2 hPm2 hk2 hS2 => ?_)
  have hPx2 := C.Px hPx1 hk2
  refine lv_icmp_eq (tgt := 1238) hx hb dL_law_1197 (by decide) (fun _ => ?_) (fun w => absurd hp2.1 w)
  exact nx zx1 zm1 H2 locs2 ls hp2.2 hPx2 hPm2 hS2 hl
set_option maxHeartbeats 4000000 in
set_option maxRecDepth 100000 in
theorem law_34 (C : LC p s m meth c b L xs D q ad am cs ss) {k : Nat} (hk : 5 * k + 5 ≤ L) (nx : LH p l e s m below meth c b D q ad am cs ss Q 1238 (nI (5 * k))) : LH p l e s m below meth c b D q ad am cs ss Q 1202 (nI (5 * k)) := by
  intro zx zm H locs ls hR hPx hPm hS hl
  obtain ⟨hx, hb, hr, hml, hown, hts, hX, hbl, hlocks, hgv⟩ := C.2.1
  have hK := C.2.2.1
  have hcs : cs ≤ room_1.cells ∧ ss ≤ room_1.slots := ⟨C.2.2.2.2.2.2.2.2.2.1, C.2.2.2.2.2.2.2.2.2.2⟩
  have hbA : ¬ s.heap.size ≤ b := Nat.not_le.mpr hbl
  have hL := C.1
  refine lv_aload_n hx hb dL_law_1202 rfl (lv_at hl 2 rfl) ?_
  refine law_ci (Wd := WX q ad) (En := xE D q ad (lAx ad)) (z := zx) (As := []) (rest := []) (xE_G D q ad (lAx ad)) C.S (kX7_torn l D q ad (lAx ad) C.Dx zx _ (q_torn hR)) (cwV 0 hts (cW_V (fun _ h => tG_tbl h) tw_co_X7_torn tw_ml_L_156 tw_im_X7_torn tw_se_X7_torn tw_in_X7) rfl rfl rfl (by decide +kernel) ⟨by decide, by decide⟩) (va_recv hK hPx (ci := 7) (q0 := 38) rfl (wx_38 q ad zx)) (C.Ex hS) hPx hS C.Ax rfl hl.1 rfl (Nat.le_of_ble_eq_true rfl) dL_law_1203 hcs (fun r1 zx1 H1 locs1 hp hPx1 hk1 hS1 => ?_)
  have hPm1 := C.Pm hPm hk1
  clear hk1
  have hS := hS1
  refine lv_aload_n hx hb dL_law_1206 rfl (lv_at hl 1 rfl) ?_
  refine law_ci (Wd := WM q am) (En := mE D q) (z := zm) (As := []) (rest := [.int r1]) (mE_G D q (lAm am)) C.S (kX8_torn l D q am (lAm am) C.Dm zm _ hp) (cwV 0 hts (cW_V (fun _ h => tG_tbl h) tw_co_X8_torn tw_ml_L_159 tw_im_X8_torn tw_se_X8_torn tw_in_X8) rfl rfl rfl (by decide +kernel) ⟨by decide, by decide⟩) (va_recv hK hPm1 (ci := 8) (q0 := 0) rfl (wm_0 q am zm)) (C.Em hS1) hPm1 hS1 C.Am rfl hl.1 rfl (Nat.le_of_ble_eq_true rfl) dL_law_1207 hcs (fun r2 zm1 H2 locs2 hp2 hPm2 hk2 hS2 => ?_)
  have hPx2 := C.Px hPx1 hk2
  refine lv_icmp_eq (tgt := 1238) hx hb dL_law_1210 (by decide) (fun _ => ?_) (fun w => absurd hp2.1 w)
  exact nx zx1 zm1 H2 locs2 ls hp2.2 hPx2 hPm2 hS2 hl
set_option maxHeartbeats 4000000 in
set_option maxRecDepth 100000 in
theorem law_35 (C : LC p s m meth c b L xs D q ad am cs ss) {k : Nat} (hk : 5 * k + 5 ≤ L) (nx : LH p l e s m below meth c b D q ad am cs ss Q 1238 (nI (5 * k))) : LH p l e s m below meth c b D q ad am cs ss Q 1215 (nI (5 * k)) := by
  intro zx zm H locs ls hR hPx hPm hS hl
  obtain ⟨hx, hb, hr, hml, hown, hts, hX, hbl, hlocks, hgv⟩ := C.2.1
  have hK := C.2.2.1
  have hcs : cs ≤ room_1.cells ∧ ss ≤ room_1.slots := ⟨C.2.2.2.2.2.2.2.2.2.1, C.2.2.2.2.2.2.2.2.2.2⟩
  have hbA : ¬ s.heap.size ≤ b := Nat.not_le.mpr hbl
  have hL := C.1
  refine lv_aload_n hx hb dL_law_1215 rfl (lv_at hl 2 rfl) ?_
  refine lv_aload_n hx hb dL_law_1216 rfl (lv_at hl 3 rfl) ?_
  refine lv_iload_n hx hb dL_law_1217 rfl (lv_at hl 0 rfl) ?_
  refine lv_iconst (v := (1 : Int32)) hx hb dL_law_1218 (by decide) ?_
  refine lv_iadd hx hb dL_law_1219 ?_
  rw [show nI (5 * k) + (1 : Int32) = nI (5 * k + 1) from nI_add _ 1]
  refine law_sld hx hb hX hbl hbA hS (by omega) C.1 dL_law_1220 ?_
  refine law_ci (Wd := WX q ad) (En := xE D q ad (lAx ad)) (z := zx) (As := [.int (xs (5 * k + 1))]) (rest := []) (xE_G D q ad (lAx ad)) C.S (kX7_count l D q ad (lAx ad) C.Dx zx (xs (5 * k + 1)) _ (q_count hR (xs (5 * k + 1)))) (cwV 1 hts (cW_V (fun _ h => tG_tbl h) tw_co_X7_count tw_ml_L_160 tw_im_X7_count tw_se_X7_count tw_in_X7) rfl rfl rfl (by decide +kernel) ⟨by decide, by decide⟩) (va_recv hK hPx (ci := 7) (q0 := 38) rfl (wx_38 q ad zx)) (C.Ex hS) hPx hS C.Ax rfl hl.1 rfl (Nat.le_of_ble_eq_true rfl) dL_law_1221 hcs (fun r1 zx1 H1 locs1 hp hPx1 hk1 hS1 => ?_)
  have hPm1 := C.Pm hPm hk1
  clear hk1
  have hS := hS1
  refine lv_aload_n hx hb dL_law_1224 rfl (lv_at hl 1 rfl) ?_
  refine lv_aload_n hx hb dL_law_1225 rfl (lv_at hl 3 rfl) ?_
  refine lv_iload_n hx hb dL_law_1226 rfl (lv_at hl 0 rfl) ?_
  refine lv_iconst (v := (1 : Int32)) hx hb dL_law_1227 (by decide) ?_
  refine lv_iadd hx hb dL_law_1228 ?_
  rw [show nI (5 * k) + (1 : Int32) = nI (5 * k + 1) from nI_add _ 1]
  refine law_sld hx hb hX hbl hbA hS (by omega) C.1 dL_law_1229 ?_
  refine law_ci (Wd := WM q am) (En := mE D q) (z := zm) (As := [.int (xs (5 * k + 1))]) (rest := [.int r1]) (mE_G D q (lAm am)) C.S (kX8_count l D q am (lAm am) C.Dm zm (xs (5 * k + 1)) _ hp) (cwV 1 hts (cW_V (fun _ h => tG_tbl h) tw_co_X8_count tw_ml_L_163 tw_im_X8_count tw_se_X8_count tw_in_X8) rfl rfl rfl (by decide +kernel) ⟨by decide, by decide⟩) (va_recv hK hPm1 (ci := 8) (q0 := 0) rfl (wm_0 q am zm)) (C.Em hS1) hPm1 hS1 C.Am rfl hl.1 rfl (Nat.le_of_ble_eq_true rfl) dL_law_1230 hcs (fun r2 zm1 H2 locs2 hp2 hPm2 hk2 hS2 => ?_)
  have hPx2 := C.Px hPx1 hk2
  refine lv_icmp_eq (tgt := 1238) hx hb dL_law_1233 (by decide) (fun _ => ?_) (fun w => absurd hp2.1 w)
  exact nx zx1 zm1 H2 locs2 ls hp2.2 hPx2 hPm2 hS2 hl
theorem lw_gt {L k : Nat} (hL : L ≤ 2560) (hk : 5 * k ≤ 2560) : nI L - 5 < nI (5 * k) ↔ L < 5 * k + 5 := by
  rw [fa_lt, show (5 : Int32) = nI 5 from rfl, pk_sub_toInt (by omega) (by decide), nI_toInt (by omega)]
  omega
set_option maxHeartbeats 4000000 in
set_option maxRecDepth 100000 in
theorem law_sw (C : LC p s m meth c b L xs D q ad am cs ss) {k : Nat} (hk : 5 * k + 5 ≤ L) (nx : LH p l e s m below meth c b D q ad am cs ss Q 1238 (nI (5 * k))) : LH p l e s m below meth c b D q ad am cs ss Q 26 (nI (5 * k)) := by
  intro zx zm H locs ls hR hPx hPm hS hl
  obtain ⟨hx, hb, hr, hml, hown, hts, hX, hbl, hlocks, hgv⟩ := C.2.1
  have hbA : ¬ s.heap.size ≤ b := Nat.not_le.mpr hbl
  have hL := C.1
  refine lv_aload_n hx hb dL_law_26 rfl (lv_at hl 3 rfl) ?_
  refine lv_iload_n hx hb dL_law_27 rfl (lv_at hl 0 rfl) ?_
  refine law_sld hx hb hX hbl hbA hS (by omega) C.1 dL_law_28 ?_
  refine lv_bipush (v := (63 : Int32)) hx hb dL_law_29 (by decide) ?_
  refine lv_iand hx hb dL_law_31 ?_
  obtain ⟨j, hj, ej⟩ := pk_andE (xs (5 * k)) (m := 63) 6 (by decide)
  rw [ej]
  by_cases c : 35 < j
  · refine lv_tableOut (tgt := 1238) hx hb dL_law_32 (Or.inr ?_) (by decide) (nx zx zm H locs ls hR hPx hPm hS hl)
    rw [nI_toInt (by omega)]
    omega
  · match j, hj, c with
    | 0, _, _ => exact lv_tableIn (off := 160) (tgt := 192) hx hb dL_law_32 (by decide) (by decide) rfl (by decide) (law_0 C hk nx zx zm H locs ls hR hPx hPm hS hl)
    | 1, _, _ => exact lv_tableIn (off := 183) (tgt := 215) hx hb dL_law_32 (by decide) (by decide) rfl (by decide) (law_1 C hk nx zx zm H locs ls hR hPx hPm hS hl)
    | 2, _, _ => exact lv_tableIn (off := 206) (tgt := 238) hx hb dL_law_32 (by decide) (by decide) rfl (by decide) (law_2 C hk nx zx zm H locs ls hR hPx hPm hS hl)
    | 3, _, _ => exact lv_tableIn (off := 219) (tgt := 251) hx hb dL_law_32 (by decide) (by decide) rfl (by decide) (law_3 C hk nx zx zm H locs ls hR hPx hPm hS hl)
    | 4, _, _ => exact lv_tableIn (off := 232) (tgt := 264) hx hb dL_law_32 (by decide) (by decide) rfl (by decide) (law_4 C hk nx zx zm H locs ls hR hPx hPm hS hl)
    | 5, _, _ => exact lv_tableIn (off := 255) (tgt := 287) hx hb dL_law_32 (by decide) (by decide) rfl (by decide) (law_5 C hk nx zx zm H locs ls hR hPx hPm hS hl)
    | 6, _, _ => exact lv_tableIn (off := 288) (tgt := 320) hx hb dL_law_32 (by decide) (by decide) rfl (by decide) (law_6 C hk nx zx zm H locs ls hR hPx hPm hS hl)
    | 7, _, _ => exact lv_tableIn (off := 321) (tgt := 353) hx hb dL_law_32 (by decide) (by decide) rfl (by decide) (law_7 C hk nx zx zm H locs ls hR hPx hPm hS hl)
    | 8, _, _ => exact lv_tableIn (off := 354) (tgt := 386) hx hb dL_law_32 (by decide) (by decide) rfl (by decide) (law_8 C hk nx zx zm H locs ls hR hPx hPm hS hl)
    | 9, _, _ => exact lv_tableIn (off := 387) (tgt := 419) hx hb dL_law_32 (by decide) (by decide) rfl (by decide) (law_9 C hk nx zx zm H locs ls hR hPx hPm hS hl)
    | 10, _, _ => exact lv_tableIn (off := 420) (tgt := 452) hx hb dL_law_32 (by decide) (by decide) rfl (by decide) (law_10 C hk nx zx zm H locs ls hR hPx hPm hS hl)
    | 11, _, _ => exact lv_tableIn (off := 469) (tgt := 501) hx hb dL_law_32 (by decide) (by decide) rfl (by decide) (law_11 C hk nx zx zm H locs ls hR hPx hPm hS hl)
    | 12, _, _ => exact lv_tableIn (off := 512) (tgt := 544) hx hb dL_law_32 (by decide) (by decide) rfl (by decide) (law_12 C hk nx zx zm H locs ls hR hPx hPm hS hl)
    | 13, _, _ => exact lv_tableIn (off := 535) (tgt := 567) hx hb dL_law_32 (by decide) (by decide) rfl (by decide) (law_13 C hk nx zx zm H locs ls hR hPx hPm hS hl)
    | 14, _, _ => exact lv_tableIn (off := 568) (tgt := 600) hx hb dL_law_32 (by decide) (by decide) rfl (by decide) (law_14 C hk nx zx zm H locs ls hR hPx hPm hS hl)
    | 15, _, _ => exact lv_tableIn (off := 591) (tgt := 623) hx hb dL_law_32 (by decide) (by decide) rfl (by decide) (law_15 C hk nx zx zm H locs ls hR hPx hPm hS hl)
    | 16, _, _ => exact lv_tableIn (off := 614) (tgt := 646) hx hb dL_law_32 (by decide) (by decide) rfl (by decide) (law_16 C hk nx zx zm H locs ls hR hPx hPm hS hl)
    | 17, _, _ => exact lv_tableIn (off := 637) (tgt := 669) hx hb dL_law_32 (by decide) (by decide) rfl (by decide) (law_17 C hk nx zx zm H locs ls hR hPx hPm hS hl)
    | 18, _, _ => exact lv_tableIn (off := 660) (tgt := 692) hx hb dL_law_32 (by decide) (by decide) rfl (by decide) (law_18 C hk nx zx zm H locs ls hR hPx hPm hS hl)
    | 19, _, _ => exact lv_tableIn (off := 683) (tgt := 715) hx hb dL_law_32 (by decide) (by decide) rfl (by decide) (law_19 C hk nx zx zm H locs ls hR hPx hPm hS hl)
    | 20, _, _ => exact lv_tableIn (off := 706) (tgt := 738) hx hb dL_law_32 (by decide) (by decide) rfl (by decide) (law_20 C hk nx zx zm H locs ls hR hPx hPm hS hl)
    | 21, _, _ => exact lv_tableIn (off := 729) (tgt := 761) hx hb dL_law_32 (by decide) (by decide) rfl (by decide) (law_21 C hk nx zx zm H locs ls hR hPx hPm hS hl)
    | 22, _, _ => exact lv_tableIn (off := 752) (tgt := 784) hx hb dL_law_32 (by decide) (by decide) rfl (by decide) (law_22 C hk nx zx zm H locs ls hR hPx hPm hS hl)
    | 23, _, _ => exact lv_tableIn (off := 786) (tgt := 818) hx hb dL_law_32 (by decide) (by decide) rfl (by decide) (law_23 C hk nx zx zm H locs ls hR hPx hPm hS hl)
    | 24, _, _ => exact lv_tableIn (off := 820) (tgt := 852) hx hb dL_law_32 (by decide) (by decide) rfl (by decide) (law_24 C hk nx zx zm H locs ls hR hPx hPm hS hl)
    | 25, _, _ => exact lv_tableIn (off := 863) (tgt := 895) hx hb dL_law_32 (by decide) (by decide) rfl (by decide) (law_25 C hk nx zx zm H locs ls hR hPx hPm hS hl)
    | 26, _, _ => exact lv_tableIn (off := 886) (tgt := 918) hx hb dL_law_32 (by decide) (by decide) rfl (by decide) (law_26 C hk nx zx zm H locs ls hR hPx hPm hS hl)
    | 27, _, _ => exact lv_tableIn (off := 909) (tgt := 941) hx hb dL_law_32 (by decide) (by decide) rfl (by decide) (law_27 C hk nx zx zm H locs ls hR hPx hPm hS hl)
    | 28, _, _ => exact lv_tableIn (off := 942) (tgt := 974) hx hb dL_law_32 (by decide) (by decide) rfl (by decide) (law_28 C hk nx zx zm H locs ls hR hPx hPm hS hl)
    | 29, _, _ => exact lv_tableIn (off := 985) (tgt := 1017) hx hb dL_law_32 (by decide) (by decide) rfl (by decide) (law_29 C hk nx zx zm H locs ls hR hPx hPm hS hl)
    | 30, _, _ => exact lv_tableIn (off := 1008) (tgt := 1040) hx hb dL_law_32 (by decide) (by decide) rfl (by decide) (law_30 C hk nx zx zm H locs ls hR hPx hPm hS hl)
    | 31, _, _ => exact lv_tableIn (off := 1031) (tgt := 1063) hx hb dL_law_32 (by decide) (by decide) rfl (by decide) (law_31 C hk nx zx zm H locs ls hR hPx hPm hS hl)
    | 32, _, _ => exact lv_tableIn (off := 1074) (tgt := 1106) hx hb dL_law_32 (by decide) (by decide) rfl (by decide) (law_32 C hk nx zx zm H locs ls hR hPx hPm hS hl)
    | 33, _, _ => exact lv_tableIn (off := 1117) (tgt := 1149) hx hb dL_law_32 (by decide) (by decide) rfl (by decide) (law_33 C hk nx zx zm H locs ls hR hPx hPm hS hl)
    | 34, _, _ => exact lv_tableIn (off := 1170) (tgt := 1202) hx hb dL_law_32 (by decide) (by decide) rfl (by decide) (law_34 C hk nx zx zm H locs ls hR hPx hPm hS hl)
    | 35, _, _ => exact lv_tableIn (off := 1183) (tgt := 1215) hx hb dL_law_32 (by decide) (by decide) rfl (by decide) (law_35 C hk nx zx zm H locs ls hR hPx hPm hS hl)
    | j + 36, _, h => exact absurd (by omega) h
set_option maxHeartbeats 4000000 in
theorem law_loop (C : LC p s m meth c b L xs D q ad am cs ss) (hQ : Q = lw_Z below #[Value.ref b] s) : ∀ n k, 5 * k ≤ L → L < 5 * k + n → LH p l e s m below meth c b D q ad am cs ss Q 18 (nI (5 * k)) := by
  intro n
  induction n with
  | zero => intro k h1 h2; omega
  | succ n ih =>
    intro k h1 h2 zx zm H locs ls hR hPx hPm hS hl
    obtain ⟨hx, hb, hr, hml, hown, hts, hX, hbl, hlocks, hgv⟩ := C.2.1
    have hbA : ¬ s.heap.size ≤ b := Nat.not_le.mpr hbl
    have hL := C.1
    refine lv_iload_n hx hb dL_law_18 rfl (lv_at hl 0 rfl) ?_
    refine lv_aload_n hx hb dL_law_19 rfl (lv_at hl 3 rfl) ?_
    refine va_slen hx hb hX hbl hbA hS dL_law_20 ?_
    refine lv_iconst (v := (5 : Int32)) hx hb dL_law_21 (by decide) ?_
    refine lv_isub hx hb dL_law_22 ?_
    have e0 : (Int32.ofNat L - 5 : Int32) = nI L - 5 := rfl
    rw [e0]
    refine lv_icmp_gt (tgt := 1244) hx hb dL_law_23 (by decide) (fun _ => ?_) (fun w => ?_)
    · refine lv_iconst (v := (1 : Int32)) hx hb dL_law_1244 (by decide) ?_
      rw [hQ]
      refine va_forget hS.2.2 ?_
      refine W.widen (k := 600000) (n := 7302250) C.2.2.2.2.2.2.2.2.2.1 C.2.2.2.2.2.2.2.2.2.2 ?_
      exact lw_ret hx hb hr hlocks dL_law_1245
    · rw [lw_gt hL (by omega)] at w
      refine law_sw C (by omega) ?_ zx zm H locs ls hR hPx hPm hS hl
      intro zx zm H locs ls hR hPx hPm hS hl
      refine lv_iinc (v := nI (5 * (k + 1))) (lv' := [(3, .int (nI (5 * (k + 1)))), (2, .ref (am 0)), (1, .ref (ad 38)), (0, .ref b)]) hx hb dL_law_1238 hl (k := 0) rfl (by rw [show Int32.ofInt 5 = nI 5 from rfl, nI_add]; congr 1) (by decide) rfl (fun ls hl => ?_)
      refine lv_goto (tgt := 18) hx hb dL_law_1241 (by decide) ?_
      exact ih (k + 1) (by omega) (by omega) zx zm H locs ls hR hPx hPm hS hl
end LWL
