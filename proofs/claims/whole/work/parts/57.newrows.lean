/-! rows for constructors -/
theorem arrV_cong {c : ClassId} {n : Nat} {f g : Nat → Value} (h : ∀ j, j < n → f j = g j) : arrV c n f = arrV c n g := by
  unfold arrV
  congr 2
  funext j
  exact h j.1 j.2
theorem va_D1 {A : Nat → Prop} {a : Nat} {e : va_E} (h : A a) : va_D A [(a, e)] := by
  refine ⟨fun i j p q hi hj _ => ?_, fun k q hk => ?_⟩
  · have h1 : i < 1 := (List.getElem?_eq_some_iff.mp hi).1
    have h2 : j < 1 := (List.getElem?_eq_some_iff.mp hj).1
    omega
  · match k, hk with
    | 0, hk => cases hk; exact h
    | k + 1, hk => simp at hk
theorem ty_i {D : va_G} {q : Nat → ClassId} {s : State} {cA : ClassId} (hK : va_K D vwCl (xTy q) s) (h : va_K D vwCl (xTy q ++ [(cA, .int)]) s) : cA = q 0 :=
  Option.some.inj ((h.2 4 (cA, .int) rfl).2.symm.trans (hK.2 0 (q 0, .int) rfl).2)
theorem ty_z {D : va_G} {q : Nat → ClassId} {s : State} {cA : ClassId} (hK : va_K D vwCl (xTy q) s) (h : va_K D vwCl (xTy q ++ [(cA, .boolean)]) s) : cA = q 1 :=
  Option.some.inj ((h.2 4 (cA, .boolean) rfl).2.symm.trans (hK.2 1 (q 1, .boolean) rfl).2)
theorem ty_L {D : va_G} {q : Nat → ClassId} {s : State} {cA : ClassId} (hK : va_K D vwCl (xTy q) s) (h : va_K D vwCl (xTy q ++ [(cA, .object "OmenLine$Line")]) s) : cA = q 2 := by
  obtain ⟨_, _, _, _, _, h1⟩ := (h.2 4 (cA, .object "OmenLine$Line") rfl).2
  obtain ⟨_, _, _, _, _, h2⟩ := (hK.2 2 (q 2, .object "OmenLine$Line") rfl).2
  exact Option.some.inj (h1.symm.trans h2)
theorem ty_S {D : va_G} {q : Nat → ClassId} {s : State} {cA : ClassId} (hK : va_K D vwCl (xTy q) s) (h : va_K D vwCl (xTy q ++ [(cA, .object "OmenLine$Sheet")]) s) : cA = q 3 := by
  obtain ⟨_, _, _, _, _, h1⟩ := (h.2 4 (cA, .object "OmenLine$Sheet") rfl).2
  obtain ⟨_, _, _, _, _, h2⟩ := (hK.2 3 (q 3, .object "OmenLine$Sheet") rfl).2
  exact Option.some.inj (h1.symm.trans h2)
section NR
variable {p : Program} {l : Launch} {e : Env} {R : Room} {s : State} {m : MethodId} {args : Array Value} {below : List Frame} {meth : Method} {c : Code} {H : Heap} {locs : List Loc} {cells slots : Nat} {Q : State → Prop}
variable {D : va_G} {q : Nat → ClassId} {A : Nat → Prop} {ws : va_W} {cc : ByteArray} {pc : Nat} {ls : Array Slot} {rest : List Value} {H0 : Heap} {a b : Nat}
theorem g_newi (hx : p.tables.exec = Jvm.exec) (hb : c.code = cc) (ht : ∀ w ∈ tG, w.before args s = true) (hK : va_K D vwCl (xTy q) s) (hP : va_P D vwCl ws H) (hD : va_D A ws) (hS : va_S A H0 H locs) (hA : ∀ x, H0.size ≤ x → A x) {n : Int32} (N : Nat) (hn : ¬ n < 0) (hN : n.toNatClampNeg = N) (hbytes : N * componentBytes .int ≤ 536870912) (hcells : cells + 1 ≤ R.cells) (hslots : slots + N ≤ R.slots) (hdg : decode cc pc = .ok (.newarray .int, 2))
    (kk : ∀ (a : Nat) (H1 : Heap), va_P D vwCl (ws ++ [(a, .inl (q 0, N, .inl (fun _ => 0)))]) H1 → va_D A (ws ++ [(a, .inl (q 0, N, .inl (fun _ => 0)))]) → va_S A H0 H1 locs → W p l e R s m args below meth c H1 locs (cells + 1) (slots + N) Q (F0 m (pc + 2) ls (.ref a :: rest))) : W p l e R s m args below meth c H locs cells slots Q (F0 m pc ls (.int n :: rest)) :=
  va_newa (atype := .int) hx hb (ht _ tw_ac_int) rfl hK hP hD hS hA (a0 := (N, .inl (fun _ => 0))) (fun _ => rfl) hn hN hbytes hcells hslots hdg (fun a cA H1 hK1 hP1 hD1 hS1 => by
    have e := ty_i hK hK1
    subst e
    exact kk a H1 hP1 hD1 hS1)
theorem g_newz (hx : p.tables.exec = Jvm.exec) (hb : c.code = cc) (ht : ∀ w ∈ tG, w.before args s = true) (hK : va_K D vwCl (xTy q) s) (hP : va_P D vwCl ws H) (hD : va_D A ws) (hS : va_S A H0 H locs) (hA : ∀ x, H0.size ≤ x → A x) {n : Int32} (N : Nat) (hn : ¬ n < 0) (hN : n.toNatClampNeg = N) (hbytes : N * componentBytes .boolean ≤ 536870912) (hcells : cells + 1 ≤ R.cells) (hslots : slots + N ≤ R.slots) (hdg : decode cc pc = .ok (.newarray .boolean, 2))
    (kk : ∀ (a : Nat) (H1 : Heap), va_P D vwCl (ws ++ [(a, .inl (q 1, N, .inl (fun _ => 0)))]) H1 → va_D A (ws ++ [(a, .inl (q 1, N, .inl (fun _ => 0)))]) → va_S A H0 H1 locs → W p l e R s m args below meth c H1 locs (cells + 1) (slots + N) Q (F0 m (pc + 2) ls (.ref a :: rest))) : W p l e R s m args below meth c H locs cells slots Q (F0 m pc ls (.int n :: rest)) :=
  va_newa (atype := .boolean) hx hb (ht _ tw_ac_boolean) rfl hK hP hD hS hA (a0 := (N, .inl (fun _ => 0))) (fun _ => rfl) hn hN hbytes hcells hslots hdg (fun a cA H1 hK1 hP1 hD1 hS1 => by
    have e := ty_z hK hK1
    subst e
    exact kk a H1 hP1 hD1 hS1)
/-- the first i numbers of a list, then 0 -/
def stF (L : List Int32) (i : Nat) : Nat → Int32 := fun k => if k < i then L.getD k 0 else 0
theorem stF_0 (L : List Int32) : stF L 0 = fun _ => 0 := by
  funext k
  unfold stF
  rw [if_neg (by omega)]
theorem stF_s (L : List Int32) (i : Nat) : upd (stF L i) i (L.getD i 0) = stF L (i + 1) := by
  funext k
  unfold upd stF
  by_cases c : k = i
  · rw [if_pos c, if_pos (by omega), c]
  · rw [if_neg c]
    by_cases d : k < i
    · rw [if_pos d, if_pos (by omega)]
    · rw [if_neg d, if_neg (by omega)]
theorem g_ini (L : List Int32) (i : Nat) (hx : p.tables.exec = Jvm.exec) (hb : c.code = cc) (hK : va_K D vwCl (xTy q) s) (hP : va_P D vwCl ws H) (hD : va_D A ws) (hS : va_S A H0 H locs) (q0 : Nat) {n : Nat} {j x : Int32} (ha : ws[q0]? = some (a, .inl (q 0, n, .inl (stF L i)))) (hj : j.toNatClampNeg = i) (hin : vp_in j n) (hv : L.getD i 0 = x) (hdg : decode cc pc = .ok (.iastore, 1))
    (kk : ∀ (H1 : Heap) (locs1 : List Loc), va_P D vwCl (ws.set q0 (a, .inl (q 0, n, .inl (stF L (i + 1))))) H1 → va_D A (ws.set q0 (a, .inl (q 0, n, .inl (stF L (i + 1))))) → va_S A H0 H1 locs1 → W p l e R s m args below meth c H1 locs1 cells slots Q (F0 m (pc + 1) ls rest)) : W p l e R s m args below meth c H locs cells slots Q (F0 m pc ls (.int x :: .int j :: .ref a :: rest)) :=
  va_iast hx hb hK hP hD hS q0 0 ha rfl hin hdg (fun H1 locs1 hP1 hD1 hS1 => by
    rw [hj, ← hv, stF_s] at hP1 hD1
    exact kk H1 locs1 hP1 hD1 hS1)
end NR
