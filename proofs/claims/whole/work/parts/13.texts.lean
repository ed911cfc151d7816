/-! texts: their lengths and letters, by String's own methods -/
section GT
variable {p : Program} {l : Launch} {e : Env} {R : Room} {s : State} {m : MethodId} {args : Array Value} {below : List Frame} {meth : Method} {c : Code} {H : Heap} {locs : List Loc} {cells slots : Nat} {Q : State → Prop}
variable {D : va_G} {cl : List vw_C} {tys : List (ClassId × FieldType)} {A : Nat → Prop} {Wd : MX → va_W} {En : State → Heap → Prop} {cc bytes : ByteArray} {pc : Nat} {ls : Array Slot} {rest : List Value} {z : MX}
theorem g_rt {post : Int32 → MX → Prop} {ty : FieldType} (hG : gE En A) (hx : p.tables.exec = Jvm.exec) (hb : c.code = cc) (hr : meth.sig.returnType = some ty) (hlocks : meth.locks = false) (hE : En s s.heap) (hP : va_P D cl (Wd z) H) (hS : va_S A s.heap H locs) {v : Int32} (hn : narrow ty (.int v) = .int v) (h : post v z) (hdg : decode cc pc = .ok (.ireturn, 1)) : W p l e R s m args below meth c H locs cells slots (MQ below (va_Qi post (gB D cl Wd En) A) args s cells slots A) (F0 m pc ls [.int v]) :=
  W.zret hx hb hr hn (fun t ht hW => ⟨⟨v, z, rfl, h, by rw [ht]; exact hP, g_now hG hE hS ht hW⟩, hS.F ht⟩) hS.2.2 hdg hlocks
def gQs (ad : Nat → Nat) (post : Nat → MX → Prop) (B : MX → State → Prop) (A : Nat → Prop) : Array Value → State → Outcome → State → Prop := va_Qr (S := Nat × MX) (fun u => post u.1 u.2 ∧ u.1 < 13) (fun u a t => a = ad (100 + u.1) ∧ B u.2 t) A
theorem g_rs {ad : Nat → Nat} {post : Nat → MX → Prop} {w : Nat} (hG : gE En A) (hx : p.tables.exec = Jvm.exec) (hb : c.code = cc) (hr : meth.sig.returnType = some (.object "java/lang/String")) (hlocks : meth.locks = false) (hE : En s s.heap) (hP : va_P D cl (Wd z) H) (hS : va_S A s.heap H locs) (hw : w < 13) (h : post w z) (hdg : decode cc pc = .ok (.areturn, 1)) : W p l e R s m args below meth c H locs cells slots (MQ below (gQs ad post (gB D cl Wd En) A) args s cells slots A) (F0 m pc ls [.ref (ad (100 + w))]) :=
  W.aret hx hb hr (Or.inl ⟨_, rfl⟩) (Or.inr ⟨_, rfl⟩) (fun t ht hW => ⟨⟨(w, z), ad (100 + w), rfl, ⟨h, hw⟩, rfl, by rw [ht]; exact hP, g_now hG hE hS ht hW⟩, hS.F ht⟩) hS.2.2 hdg (hlocks := hlocks)
variable {y : MethodName} {maxL nL n index : Nat} {ret : Option FieldType} {ws : List Cond} {rm : Room} {Ts : List Cond} {own : String} {As st0 : List Value}
theorem g_cSs {ad : Nat → Nat} {post : Nat → MX → Prop} (hG : gE En A) (S : CallFix p m c cc nL s args Ts own) (hM : Met l y ws rm (va_Pc As (gB D cl Wd En z)) (gQs ad post (gB D cl Wd En) A) 0 0 A) (cw : CallB R s args own index y bytes maxL ret ws rm 0 0 n ∧ (Cond.static y).before args s = true) (hE : En s s.heap) (hP : va_P D cl (Wd z) H) (hS : va_S A s.heap H locs) (hn : As.length = n) (hsz : ls.size = nL) (hst : st0 = As.reverse ++ rest) (hW : (rest.map fun v => v.category).sum ≤ 8) (hdg : decode cc pc = .ok (.invokestatic index, 3)) (hf : cells ≤ R.cells ∧ slots ≤ R.slots)
    (kk : ∀ (w : Nat) (z1 : MX) (H1 : Heap) (locs1 : List Loc), w < 13 → post w z1 → va_P D cl (Wd z1) H1 → va_S A s.heap H1 locs1 → W p l e R s m args below meth c H1 locs1 cells slots Q (F0 m (pc + 3) ls (.ref (ad (100 + w)) :: rest))) : W p l e R s m args below meth c H locs cells slots Q (F0 m pc ls st0) :=
  va_callr (va_runS (g := F0 m pc ls st0) (rest := rest) S hM cw ⟨g_blind hG, g_pre hG hP hE hS⟩ rfl hn hsz hst (lv_room hW) hdg hf) hS (fun _ _ h => h) (fun _ h => h) (fun u ra t H1 locs1 ht _ hp hB _ _ hS1 => by
    obtain ⟨h1, h2⟩ := hB
    subst h1
    exact kk u.1 u.2 H1 locs1 hp.2 hp.1 (by rw [← ht]; exact h2.1) hS1)
end GT
def pJ0_length_8abf5 (w : Nat) (z : MX) (post : Int32 → MX → Prop) : Prop := post (nI (xLen.getD w 0)) z
def pJ0_charAt_5068e (w : Nat) (z : MX) (x1 : Int32) (post : Int32 → MX → Prop) : Prop := vp_in x1 (xLen.getD w 0) ∧ post ((xByt.getD w []).getD x1.toNatClampNeg 0) z
theorem xLen_lt : ∀ w, w < 13 → xLen.getD w 0 < 2 ^ 31 := by decide
theorem xByt_255 : ∀ w, w < 13 → ∀ j, j < 8 → (xByt.getD w []).getD j 0 &&& 255 = (xByt.getD w []).getD j 0 := by decide +kernel
theorem xLen_8 : ∀ w, w < 13 → xLen.getD w 0 ≤ 8 := by decide
set_option maxHeartbeats 4000000 in
set_option maxRecDepth 100000 in
theorem kJ0_coder (l : Launch) (D : va_G) (q : Nat → ClassId) (ad : Nat → Nat) (A : Nat → Prop) (w : Nat) (hw : w < 13) (z : MX) : Met l yJ0_coder_7d493 (cW yJ0_coder_7d493 cJ0_coder_7d493 1 (some .byte)) ({ frames := 0, cells := 0, slots := 0, locals := 0 } : Room) (va_Pc [.ref (ad (100 + w))] ((gB D vwCl (WX q ad) (xE D q ad A)) z)) (va_Qi (fun r z1 => r = 0 ∧ z1 = z) (gB D vwCl (WX q ad) (xE D q ad A)) A) 0 0 A := by
  refine Met.ofW (cc := cJ0_coder_7d493) (maxL := 1) (ret := (some .byte)) (by decide) rfl ?_
  intro p e s m args below meth c s₁ B hml hv
  obtain ⟨hargs, hP, hE⟩ := hv
  have hx := B.exec
  have hb := B.bytes
  have hr := B.returns
  have hts := atoms_spec (ws := (cW yJ0_coder_7d493 cJ0_coder_7d493 1 (some .byte))) B.pre
  have ht : ∀ w ∈ tG, w.before args s = true := fun w h => hts w (List.mem_cons_of_mem _ h)
  have hown : s.vm.findClass RJ0 = some m.cls := findClass_of_methodNamed B.named
  have hlocks := B.notSynchronized
  have hK := hE.1
  have hG := xE_G D q ad A
  have S : CallFix p m c cJ0_coder_7d493 1 s args tG RJ0 := ⟨hx, hb, hml, hown, ht⟩
  have hS : va_S A s.heap s.heap [] := va_S.rf
  refine g_entry (vs := [.ref (ad (100 + w))]) hargs (Nat.le_of_ble_eq_true rfl) (fun ls hl => ?_)
  have hl : lv_has ls 1 [(0, .ref (ad (100 + w)))] := hl
  refine va_gets hx hb hE.2.2.2.2.2.2.2.1 hS hown (ht _ tw_fl_J0_38) (fun _ h9 => h9) dJ0_coder_7d493_0 ?_
  refine lv_if_eq (tgt := 13) hx hb dJ0_coder_7d493_3 (by decide) (fun c3 => absurd c3 (by decide)) (fun _ => ?_)
  refine lv_aload_n hx hb dJ0_coder_7d493_6 rfl (lv_at hl 0 rfl) ?_
  refine vk_getf hx hb (hE.2.2.2.2.2.2.2.2.1.1 w hw).2.1 hS hown (ht _ tw_fl_J0_15) (fun _ h9 => h9) dJ0_coder_7d493_7 ?_
  refine lv_goto (tgt := 14) hx hb dJ0_coder_7d493_10 (by decide) ?_
  exact g_rt hG hx hb hr hlocks hE hP hS rfl ⟨rfl, rfl⟩ dJ0_coder_7d493_14
set_option maxHeartbeats 4000000 in
set_option maxRecDepth 100000 in
theorem kJ0_isLatin1 (l : Launch) (D : va_G) (q : Nat → ClassId) (ad : Nat → Nat) (A : Nat → Prop) (w : Nat) (hw : w < 13) (z : MX) : Met l yJ0_isLatin1_aae02 (cW yJ0_isLatin1_aae02 cJ0_isLatin1_aae02 1 (some .boolean)) ({ frames := 0, cells := 0, slots := 0, locals := 0 } : Room) (va_Pc [.ref (ad (100 + w))] ((gB D vwCl (WX q ad) (xE D q ad A)) z)) (va_Qi (fun r z1 => r = 1 ∧ z1 = z) (gB D vwCl (WX q ad) (xE D q ad A)) A) 0 0 A := by
  refine Met.ofW (cc := cJ0_isLatin1_aae02) (maxL := 1) (ret := (some .boolean)) (by decide) rfl ?_
  intro p e s m args below meth c s₁ B hml hv
  obtain ⟨hargs, hP, hE⟩ := hv
  have hx := B.exec
  have hb := B.bytes
  have hr := B.returns
  have hts := atoms_spec (ws := (cW yJ0_isLatin1_aae02 cJ0_isLatin1_aae02 1 (some .boolean))) B.pre
  have ht : ∀ w ∈ tG, w.before args s = true := fun w h => hts w (List.mem_cons_of_mem _ h)
  have hown : s.vm.findClass RJ0 = some m.cls := findClass_of_methodNamed B.named
  have hlocks := B.notSynchronized
  have hK := hE.1
  have hG := xE_G D q ad A
  have S : CallFix p m c cJ0_isLatin1_aae02 1 s args tG RJ0 := ⟨hx, hb, hml, hown, ht⟩
  have hS : va_S A s.heap s.heap [] := va_S.rf
  refine g_entry (vs := [.ref (ad (100 + w))]) hargs (Nat.le_of_ble_eq_true rfl) (fun ls hl => ?_)
  have hl : lv_has ls 1 [(0, .ref (ad (100 + w)))] := hl
  refine va_gets hx hb hE.2.2.2.2.2.2.2.1 hS hown (ht _ tw_fl_J0_38) (fun _ h9 => h9) dJ0_isLatin1_aae02_0 ?_
  refine lv_if_eq (tgt := 17) hx hb dJ0_isLatin1_aae02_3 (by decide) (fun c3 => absurd c3 (by decide)) (fun _ => ?_)
  refine lv_aload_n hx hb dJ0_isLatin1_aae02_6 rfl (lv_at hl 0 rfl) ?_
  refine vk_getf hx hb (hE.2.2.2.2.2.2.2.2.1.1 w hw).2.1 hS hown (ht _ tw_fl_J0_15) (fun _ h9 => h9) dJ0_isLatin1_aae02_7 ?_
  refine lv_if_ne (tgt := 17) hx hb dJ0_isLatin1_aae02_10 (by decide) (fun c3 => absurd rfl c3) (fun _ => ?_)
  refine lv_iconst (v := (1 : Int32)) hx hb dJ0_isLatin1_aae02_13 (by decide) ?_
  refine lv_goto (tgt := 18) hx hb dJ0_isLatin1_aae02_14 (by decide) ?_
  exact g_rt hG hx hb hr hlocks hE hP hS rfl ⟨rfl, rfl⟩ dJ0_isLatin1_aae02_18
set_option maxHeartbeats 4000000 in
set_option maxRecDepth 100000 in
theorem kJ0_length_8abf5 (l : Launch) (D : va_G) (q : Nat → ClassId) (ad : Nat → Nat) (A : Nat → Prop) (w : Nat) (hw : w < 13) (z : MX) (post : Int32 → MX → Prop) (h : pJ0_length_8abf5 w z post) : Met l yJ0_length_8abf5 (cW yJ0_length_8abf5 cJ0_length_8abf5 1 (some .int)) ({ frames := 1, cells := 0, slots := 0, locals := 20 } : Room) (va_Pc [.ref (ad (100 + w))] ((gB D vwCl (WX q ad) (xE D q ad A)) z)) (va_Qi post (gB D vwCl (WX q ad) (xE D q ad A)) A) 0 0 A := by
  refine Met.ofW (cc := cJ0_length_8abf5) (maxL := 1) (ret := (some .int)) (by decide) rfl ?_
  intro p e s m args below meth c s₁ B hml hv
  obtain ⟨hargs, hP, hE⟩ := hv
  have hx := B.exec
  have hb := B.bytes
  have hr := B.returns
  have hts := atoms_spec (ws := (cW yJ0_length_8abf5 cJ0_length_8abf5 1 (some .int))) B.pre
  have ht : ∀ w ∈ tG, w.before args s = true := fun w h => hts w (List.mem_cons_of_mem _ h)
  have hown : s.vm.findClass RJ0 = some m.cls := findClass_of_methodNamed B.named
  have hlocks := B.notSynchronized
  have hK := hE.1
  have hG := xE_G D q ad A
  have S : CallFix p m c cJ0_length_8abf5 1 s args tG RJ0 := ⟨hx, hb, hml, hown, ht⟩
  have hS : va_S A s.heap s.heap [] := va_S.rf
  refine g_entry (vs := [.ref (ad (100 + w))]) hargs (Nat.le_of_ble_eq_true rfl) (fun ls hl => ?_)
  have hl : lv_has ls 1 [(0, .ref (ad (100 + w)))] := hl
  refine lv_aload_n hx hb dJ0_length_8abf5_0 rfl (lv_at hl 0 rfl) ?_
  refine vk_getf hx hb (hE.2.2.2.2.2.2.2.2.1.1 w hw).2.2.1 hS hown (ht _ tw_fl_J0_9) (fun _ h9 => h9) dJ0_length_8abf5_1 ?_
  refine va_tlen hx hb (hE.2.2.2.2.2.2.2.2.1.1 w hw).2.2.2 hS (v := nI (xLen.getD w 0)) rfl dJ0_length_8abf5_4 ?_
  refine lv_aload_n hx hb dJ0_length_8abf5_5 rfl (lv_at hl 0 rfl) ?_
  refine g_cVi (Wd := WX q ad) (z := z) (As := []) (rest := [.int (nI (xLen.getD w 0))]) hG S (kJ0_coder l D q ad A w hw z) (cwV 0 ht (cW_V (fun _ h => h) tw_co_J0_coder_7d493 tw_ml_J0_335 tw_im_J0_coder_7d493 tw_se_J0_coder_7d493 tw_in_J0) rfl rfl rfl (by decide +kernel) ⟨by decide, by decide⟩) (vk_recv (adK := fun i => ad (100 + i)) (i := w) hE.2.2.2.2.2.2.2.2.1 hw hS) hE hP hS rfl hl.1 rfl (Nat.le_of_ble_eq_true rfl) dJ0_length_8abf5_6 ⟨Nat.zero_le _, Nat.zero_le _⟩ (fun r z1 H locs hq hP hS => ?_)
  obtain ⟨hq1, hq2⟩ := hq
  subst hq1
  rw [hq2] at hP
  refine lv_ishr hx hb dJ0_length_8abf5_9 ?_
  refine g_ri hG hx hb hr hlocks hE hP hS ?_ dJ0_length_8abf5_10
  rw [sc_shr0 (xLen_lt w hw)]
  exact h
set_option maxHeartbeats 4000000 in
set_option maxRecDepth 100000 in
theorem kJ3_null (l : Launch) (D : va_G) (q : Nat → ClassId) (ad : Nat → Nat) (A : Nat → Prop) (z : MX) (x0 x1 : Int32) (h0 : ¬ x0 < 0) (h1 : x0 < x1) : Met l yJ3_checkIndex_8e157 (cW yJ3_checkIndex_8e157 cJ3_checkIndex_8e157 3 (some .int)) ({ frames := 0, cells := 0, slots := 0, locals := 0 } : Room) (va_Pc [.int x0, .int x1, .null] ((gB D vwCl (WX q ad) (xE D q ad A)) z)) (va_Qi (fun (_ : Int32) z1 => z1 = z) (gB D vwCl (WX q ad) (xE D q ad A)) A) 0 0 A := by
  refine Met.ofW (cc := cJ3_checkIndex_8e157) (maxL := 3) (ret := (some .int)) (by decide) rfl ?_
  intro p e s m args below meth c s₁ B hml hv
  obtain ⟨hargs, hP, hE⟩ := hv
  have hx := B.exec
  have hb := B.bytes
  have hr := B.returns
  have hts := atoms_spec (ws := (cW yJ3_checkIndex_8e157 cJ3_checkIndex_8e157 3 (some .int))) B.pre
  have ht : ∀ w ∈ tG, w.before args s = true := fun w h => hts w (List.mem_cons_of_mem _ h)
  have hown : s.vm.findClass RJ3 = some m.cls := findClass_of_methodNamed B.named
  have hlocks := B.notSynchronized
  have hK := hE.1
  have hG := xE_G D q ad A
  have S : CallFix p m c cJ3_checkIndex_8e157 3 s args tG RJ3 := ⟨hx, hb, hml, hown, ht⟩
  have hS : va_S A s.heap s.heap [] := va_S.rf
  refine g_entry (vs := [.int x0, .int x1, .null]) hargs (Nat.le_of_ble_eq_true rfl) (fun ls hl => ?_)
  have hl : lv_has ls 3 [(0, .int x0), (1, .int x1), (2, .null)] := hl
  refine lv_iload_n hx hb dJ3_checkIndex_8e157_0 rfl (lv_at hl 0 rfl) ?_
  refine lv_if_lt (tgt := 9) hx hb dJ3_checkIndex_8e157_1 (by decide) (fun c1 => absurd c1 h0) (fun _ => ?_)
  refine lv_iload_n hx hb dJ3_checkIndex_8e157_4 rfl (lv_at hl 0 rfl) ?_
  refine lv_iload_n hx hb dJ3_checkIndex_8e157_5 rfl (lv_at hl 1 rfl) ?_
  refine lv_icmp_lt (tgt := 16) hx hb dJ3_checkIndex_8e157_6 (by decide) (fun _ => ?_) (fun c1 => absurd h1 c1)
  refine lv_iload_n hx hb dJ3_checkIndex_8e157_16 rfl (lv_at hl 0 rfl) ?_
  exact g_ri hG hx hb hr hlocks hE hP hS rfl dJ3_checkIndex_8e157_17
set_option maxHeartbeats 4000000 in
set_option maxRecDepth 100000 in
theorem kJ3_ref (l : Launch) (D : va_G) (q : Nat → ClassId) (ad : Nat → Nat) (A : Nat → Prop) (z : MX) (t : Nat) (x0 x1 : Int32) (h0 : ¬ x0 < 0) (h1 : x0 < x1) : Met l yJ3_checkIndex_8e157 (cW yJ3_checkIndex_8e157 cJ3_checkIndex_8e157 3 (some .int)) ({ frames := 0, cells := 0, slots := 0, locals := 0 } : Room) (va_Pc [.int x0, .int x1, .ref t] ((gB D vwCl (WX q ad) (xE D q ad A)) z)) (va_Qi (fun (_ : Int32) z1 => z1 = z) (gB D vwCl (WX q ad) (xE D q ad A)) A) 0 0 A := by
  refine Met.ofW (cc := cJ3_checkIndex_8e157) (maxL := 3) (ret := (some .int)) (by decide) rfl ?_
  intro p e s m args below meth c s₁ B hml hv
  obtain ⟨hargs, hP, hE⟩ := hv
  have hx := B.exec
  have hb := B.bytes
  have hr := B.returns
  have hts := atoms_spec (ws := (cW yJ3_checkIndex_8e157 cJ3_checkIndex_8e157 3 (some .int))) B.pre
  have ht : ∀ w ∈ tG, w.before args s = true := fun w h => hts w (List.mem_cons_of_mem _ h)
  have hown : s.vm.findClass RJ3 = some m.cls := findClass_of_methodNamed B.named
  have hlocks := B.notSynchronized
  have hK := hE.1
  have hG := xE_G D q ad A
  have S : CallFix p m c cJ3_checkIndex_8e157 3 s args tG RJ3 := ⟨hx, hb, hml, hown, ht⟩
  have hS : va_S A s.heap s.heap [] := va_S.rf
  refine g_entry (vs := [.int x0, .int x1, .ref t]) hargs (Nat.le_of_ble_eq_true rfl) (fun ls hl => ?_)
  have hl : lv_has ls 3 [(0, .int x0), (1, .int x1), (2, .ref t)] := hl
  refine lv_iload_n hx hb dJ3_checkIndex_8e157_0 rfl (lv_at hl 0 rfl) ?_
  refine lv_if_lt (tgt := 9) hx hb dJ3_checkIndex_8e157_1 (by decide) (fun c1 => absurd c1 h0) (fun _ => ?_)
  refine lv_iload_n hx hb dJ3_checkIndex_8e157_4 rfl (lv_at hl 0 rfl) ?_
  refine lv_iload_n hx hb dJ3_checkIndex_8e157_5 rfl (lv_at hl 1 rfl) ?_
  refine lv_icmp_lt (tgt := 16) hx hb dJ3_checkIndex_8e157_6 (by decide) (fun _ => ?_) (fun c1 => absurd h1 c1)
  refine lv_iload_n hx hb dJ3_checkIndex_8e157_16 rfl (lv_at hl 0 rfl) ?_
  exact g_ri hG hx hb hr hlocks hE hP hS rfl dJ3_checkIndex_8e157_17
set_option maxHeartbeats 4000000 in
set_option maxRecDepth 100000 in
theorem kJ0_checkIndex (l : Launch) (D : va_G) (q : Nat → ClassId) (ad : Nat → Nat) (A : Nat → Prop) (z : MX) (x0 x1 : Int32) (h0 : ¬ x0 < 0) (h1 : x0 < x1) : Met l yJ0_checkIndex_df160 (cW yJ0_checkIndex_df160 cJ0_checkIndex_df160 2 none) ({ frames := 1, cells := 0, slots := 0, locals := 22 } : Room) (va_Pc [.int x0, .int x1] ((gB D vwCl (WX q ad) (xE D q ad A)) z)) (va_Qv (fun z1 => z1 = z) (gB D vwCl (WX q ad) (xE D q ad A)) A) 0 0 A := by
  refine Met.ofW (cc := cJ0_checkIndex_df160) (maxL := 2) (ret := none) (by decide) rfl ?_
  intro p e s m args below meth c s₁ B hml hv
  obtain ⟨hargs, hP, hE⟩ := hv
  have hx := B.exec
  have hb := B.bytes
  have hr := B.returns
  have hts := atoms_spec (ws := (cW yJ0_checkIndex_df160 cJ0_checkIndex_df160 2 none)) B.pre
  have ht : ∀ w ∈ tG, w.before args s = true := fun w h => hts w (List.mem_cons_of_mem _ h)
  have hown : s.vm.findClass RJ0 = some m.cls := findClass_of_methodNamed B.named
  have hlocks := B.notSynchronized
  have hK := hE.1
  have hG := xE_G D q ad A
  have S : CallFix p m c cJ0_checkIndex_df160 2 s args tG RJ0 := ⟨hx, hb, hml, hown, ht⟩
  have hS : va_S A s.heap s.heap [] := va_S.rf
  refine g_entry (vs := [.int x0, .int x1]) hargs (Nat.le_of_ble_eq_true rfl) (fun ls hl => ?_)
  have hl : lv_has ls 2 [(0, .int x0), (1, .int x1)] := hl
  refine lv_iload_n hx hb dJ0_checkIndex_df160_0 rfl (lv_at hl 0 rfl) ?_
  refine lv_iload_n hx hb dJ0_checkIndex_df160_1 rfl (lv_at hl 1 rfl) ?_
  rcases hE.2.2.2.2.2.2.2.2.2.2 with hF | ⟨t, hF⟩
  · refine va_gets hx hb hF hS hown (ht _ tw_fl_J0_1053) (fun _ h9 => h9) dJ0_checkIndex_df160_2 ?_
    refine g_cSi (Wd := WX q ad) (z := z) (As := [.int x0, .int x1, .null]) (rest := []) hG S (kJ3_null l D q ad A z x0 x1 h0 h1) (va_cwS 3 ht (cW_S (fun _ h => h) tw_co_J3_checkIndex_8e157 tw_ml_J0_1059 tw_st_J3_checkIndex_8e157 tw_in_J3) rfl rfl rfl (by decide +kernel) ⟨by decide, by decide⟩) hE hP hS rfl hl.1 rfl (Nat.le_of_ble_eq_true rfl) dJ0_checkIndex_df160_5 ⟨Nat.zero_le _, Nat.zero_le _⟩ (fun r z1 H locs hq hP hS => ?_)
    rw [hq] at hP
    refine lv_pop hx hb dJ0_checkIndex_df160_8 rfl ?_
    exact g_rv hG hx hb hr hlocks hE hP hS rfl dJ0_checkIndex_df160_9
  · refine va_gets hx hb hF hS hown (ht _ tw_fl_J0_1053) (fun _ h9 => h9) dJ0_checkIndex_df160_2 ?_
    refine g_cSi (Wd := WX q ad) (z := z) (As := [.int x0, .int x1, .ref t]) (rest := []) hG S (kJ3_ref l D q ad A z t x0 x1 h0 h1) (va_cwS 3 ht (cW_S (fun _ h => h) tw_co_J3_checkIndex_8e157 tw_ml_J0_1059 tw_st_J3_checkIndex_8e157 tw_in_J3) rfl rfl rfl (by decide +kernel) ⟨by decide, by decide⟩) hE hP hS rfl hl.1 rfl (Nat.le_of_ble_eq_true rfl) dJ0_checkIndex_df160_5 ⟨Nat.zero_le _, Nat.zero_le _⟩ (fun r z1 H locs hq hP hS => ?_)
    rw [hq] at hP
    refine lv_pop hx hb dJ0_checkIndex_df160_8 rfl ?_
    exact g_rv hG hx hb hr hlocks hE hP hS rfl dJ0_checkIndex_df160_9
set_option maxHeartbeats 4000000 in
set_option maxRecDepth 100000 in
theorem kJ1_charAt (l : Launch) (D : va_G) (q : Nat → ClassId) (ad : Nat → Nat) (A : Nat → Prop) (w : Nat) (hw : w < 13) (z : MX) (x1 : Int32) (hi : vp_in x1 (xLen.getD w 0)) : Met l yJ1_charAt_3b067 (cW yJ1_charAt_3b067 cJ1_charAt_3b067 2 (some .char)) ({ frames := 2, cells := 0, slots := 0, locals := 43 } : Room) (va_Pc [.ref (ad (200 + w)), .int x1] ((gB D vwCl (WX q ad) (xE D q ad A)) z)) (va_Qi (fun r z1 => r = (xByt.getD w []).getD x1.toNatClampNeg 0 ∧ z1 = z) (gB D vwCl (WX q ad) (xE D q ad A)) A) 0 0 A := by
  refine Met.ofW (cc := cJ1_charAt_3b067) (maxL := 2) (ret := (some .char)) (by decide) rfl ?_
  intro p e s m args below meth c s₁ B hml hv
  obtain ⟨hargs, hP, hE⟩ := hv
  have hx := B.exec
  have hb := B.bytes
  have hr := B.returns
  have hts := atoms_spec (ws := (cW yJ1_charAt_3b067 cJ1_charAt_3b067 2 (some .char))) B.pre
  have ht : ∀ w ∈ tG, w.before args s = true := fun w h => hts w (List.mem_cons_of_mem _ h)
  have hown : s.vm.findClass RJ1 = some m.cls := findClass_of_methodNamed B.named
  have hlocks := B.notSynchronized
  have hK := hE.1
  have hG := xE_G D q ad A
  have S : CallFix p m c cJ1_charAt_3b067 2 s args tG RJ1 := ⟨hx, hb, hml, hown, ht⟩
  have hS : va_S A s.heap s.heap [] := va_S.rf
  refine g_entry (vs := [.ref (ad (200 + w)), .int x1]) hargs (Nat.le_of_ble_eq_true rfl) (fun ls hl => ?_)
  have hl : lv_has ls 2 [(0, .ref (ad (200 + w))), (1, .int x1)] := hl
  have hT := (hE.2.2.2.2.2.2.2.2.1.1 w hw).2.2.2
  have h8 : x1.toNatClampNeg < 8 := Nat.lt_of_lt_of_le (Nat.not_le.mp fun k => hi (Or.inr k)) (xLen_8 w hw)
  refine lv_iload_n hx hb dJ1_charAt_3b067_0 rfl (lv_at hl 1 rfl) ?_
  refine lv_aload_n hx hb dJ1_charAt_3b067_1 rfl (lv_at hl 0 rfl) ?_
  refine va_tlen hx hb hT hS (v := nI (xLen.getD w 0)) rfl dJ1_charAt_3b067_2 ?_
  have h1 : x1 < nI (xLen.getD w 0) := by
    obtain ⟨j, hj, rfl⟩ := vp_in_of hi (xLen_lt w hw)
    exact nI_lt hj (xLen_lt w hw)
  refine g_cSv (Wd := WX q ad) (z := z) (As := [.int x1, .int (nI (xLen.getD w 0))]) (rest := []) hG S (kJ0_checkIndex l D q ad A z x1 (nI (xLen.getD w 0)) (fun k => hi (Or.inl k)) h1) (va_cwS 2 ht (cW_S (fun _ h => h) tw_co_J0_checkIndex_df160 tw_ml_J1_9 tw_st_J0_checkIndex_df160 tw_in_J0) rfl rfl rfl (by decide +kernel) ⟨by decide, by decide⟩) hE hP hS rfl hl.1 rfl (Nat.le_of_ble_eq_true rfl) dJ1_charAt_3b067_3 ⟨Nat.zero_le _, Nat.zero_le _⟩ (fun z1 H locs hq hP hS => ?_)
  rw [hq] at hP
  refine lv_aload_n hx hb dJ1_charAt_3b067_6 rfl (lv_at hl 0 rfl) ?_
  refine lv_iload_n hx hb dJ1_charAt_3b067_7 rfl (lv_at hl 1 rfl) ?_
  refine va_tb hx hb hT hS hi rfl dJ1_charAt_3b067_8 ?_
  refine lv_sipush (v := (255 : Int32)) hx hb dJ1_charAt_3b067_9 (by decide) ?_
  refine lv_iand hx hb dJ1_charAt_3b067_12 ?_
  refine lv_i2c hx hb dJ1_charAt_3b067_13 (sc_c2 _) ?_
  have e := xByt_255 w hw _ h8
  exact g_rt hG hx hb hr hlocks hE hP hS (sc_nar _) ⟨e, rfl⟩ dJ1_charAt_3b067_14
set_option maxHeartbeats 4000000 in
set_option maxRecDepth 100000 in
theorem kJ0_charAt_5068e (l : Launch) (D : va_G) (q : Nat → ClassId) (ad : Nat → Nat) (A : Nat → Prop) (w : Nat) (hw : w < 13) (z : MX) (x1 : Int32) (post : Int32 → MX → Prop) (h : pJ0_charAt_5068e w z x1 post) : Met l yJ0_charAt_5068e (cW yJ0_charAt_5068e cJ0_charAt_5068e 2 (some .char)) ({ frames := 3, cells := 0, slots := 0, locals := 64 } : Room) (va_Pc [.ref (ad (100 + w)), .int x1] ((gB D vwCl (WX q ad) (xE D q ad A)) z)) (va_Qi post (gB D vwCl (WX q ad) (xE D q ad A)) A) 0 0 A := by
  refine Met.ofW (cc := cJ0_charAt_5068e) (maxL := 2) (ret := (some .char)) (by decide) rfl ?_
  intro p e s m args below meth c s₁ B hml hv
  obtain ⟨hargs, hP, hE⟩ := hv
  have hx := B.exec
  have hb := B.bytes
  have hr := B.returns
  have hts := atoms_spec (ws := (cW yJ0_charAt_5068e cJ0_charAt_5068e 2 (some .char))) B.pre
  have ht : ∀ w ∈ tG, w.before args s = true := fun w h => hts w (List.mem_cons_of_mem _ h)
  have hown : s.vm.findClass RJ0 = some m.cls := findClass_of_methodNamed B.named
  have hlocks := B.notSynchronized
  have hK := hE.1
  have hG := xE_G D q ad A
  have S : CallFix p m c cJ0_charAt_5068e 2 s args tG RJ0 := ⟨hx, hb, hml, hown, ht⟩
  have hS : va_S A s.heap s.heap [] := va_S.rf
  refine g_entry (vs := [.ref (ad (100 + w)), .int x1]) hargs (Nat.le_of_ble_eq_true rfl) (fun ls hl => ?_)
  have hl : lv_has ls 2 [(0, .ref (ad (100 + w))), (1, .int x1)] := hl
  obtain ⟨hi, h⟩ := h
  have h8 : x1.toNatClampNeg < 8 := Nat.lt_of_lt_of_le (Nat.not_le.mp fun k => hi (Or.inr k)) (xLen_8 w hw)
  refine lv_aload_n hx hb dJ0_charAt_5068e_0 rfl (lv_at hl 0 rfl) ?_
  refine g_cVi (Wd := WX q ad) (z := z) (As := []) (rest := []) hG S (kJ0_isLatin1 l D q ad A w hw z) (cwV 0 ht (cW_V (fun _ h => h) tw_co_J0_isLatin1_aae02 tw_ml_J0_492 tw_im_J0_isLatin1_aae02 tw_se_J0_isLatin1_aae02 tw_in_J0) rfl rfl rfl (by decide +kernel) ⟨by decide, by decide⟩) (vk_recv (adK := fun i => ad (100 + i)) (i := w) hE.2.2.2.2.2.2.2.2.1 hw hS) hE hP hS rfl hl.1 rfl (Nat.le_of_ble_eq_true rfl) dJ0_charAt_5068e_1 ⟨Nat.zero_le _, Nat.zero_le _⟩ (fun r z1 H locs hq hP hS => ?_)
  obtain ⟨hq1, hq2⟩ := hq
  subst hq1
  rw [hq2] at hP
  refine lv_if_eq (tgt := 16) hx hb dJ0_charAt_5068e_4 (by decide) (fun c3 => absurd c3 (by decide)) (fun _ => ?_)
  refine lv_aload_n hx hb dJ0_charAt_5068e_7 rfl (lv_at hl 0 rfl) ?_
  refine vk_getf hx hb (hE.2.2.2.2.2.2.2.2.1.1 w hw).2.2.1 hS hown (ht _ tw_fl_J0_9) (fun _ h9 => h9) dJ0_charAt_5068e_8 ?_
  refine lv_iload_n hx hb dJ0_charAt_5068e_11 rfl (lv_at hl 1 rfl) ?_
  refine g_cSi (Wd := WX q ad) (z := z) (As := [.ref (ad (200 + w)), .int x1]) (rest := []) hG S (kJ1_charAt l D q ad A w hw z x1 hi) (va_cwS 2 ht (cW_S (fun _ h => h) tw_co_J1_charAt_3b067 tw_ml_J0_495 tw_st_J1_charAt_3b067 tw_in_J1) rfl rfl rfl (by decide +kernel) ⟨by decide, by decide⟩) hE hP hS rfl hl.1 rfl (Nat.le_of_ble_eq_true rfl) dJ0_charAt_5068e_12 ⟨Nat.zero_le _, Nat.zero_le _⟩ (fun r z2 H locs hq hP hS => ?_)
  obtain ⟨hq1, hq2⟩ := hq
  subst hq1
  rw [hq2] at hP
  refine g_rt hG hx hb hr hlocks hE hP hS ?_ h dJ0_charAt_5068e_15
  rw [← xByt_255 w hw _ h8]
  exact sc_nar _
