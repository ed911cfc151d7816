/-! the first state -/
def f0 : Nat → Int32 := fun _ => 0
def f4 : Nat → Int32 := fun k => if k = 0 then 4 else 0
def fS : Nat → Int32 := fun k => if k = 2 then -1 else 0
def fB4 : Nat → Int32 := fun k => if k = 1 then 4 else 0
def z0x : MX := (fun c => if c = 0 ∨ c = 4 ∨ c = 8 ∨ c = 12 then f4 else if c = 16 ∨ c = 18 ∨ c = 20 ∨ c = 22 then fS else fun _ => 0, fun _ => 0)
def z0m : MX := (fun c => if c = 0 then fB4 else if c = 3 then stF lW20 20 else if c = 7 then stF lC14 14 else if c = 8 then stF lL66 66 else if c = 17 then stF lN4 4 else fun _ => 0, fun _ => 0)
theorem A0_A : AOK A0 := A0_ok.A (by decide)
theorem z0_rel : Rel z0x z0m := by
  refine ⟨A0, A0_A, ⟨rfl, rfl, rfl, rfl, fun b _ => rfl, fun j hj => ?_, fun t w ht => ?_⟩, ⟨rfl, rfl, rfl, rfl, fun b _ => rfl, fun j hj => ?_, fun t w ht => ?_, by decide⟩, fun k hk => ?_, ⟨0, by decide, rfl, rfl, fun k hk => absurd hk (by omega)⟩, ⟨0, by decide, rfl, rfl, fun k hk => absurd hk (by omega)⟩, fun j hj => Or.inl ?_, ⟨by decide, by decide⟩, rfl, rfl⟩
  · have : A0 0 2 = 0 := rfl
    omega
  · have : A0 0 1 = 0 := rfl
    omega
  · have : A0 0 2 = 0 := rfl
    omega
  · have : A0 0 1 = 0 := rfl
    omega
  · exact ⟨rfl, Or.inl rfl⟩
  · match j, hj with
    | 0, _ => exact ⟨rfl, rfl⟩
    | 1, _ => exact ⟨rfl, rfl⟩
    | 2, _ => exact ⟨rfl, rfl⟩
    | 3, _ => exact ⟨rfl, rfl⟩
    | j + 4, h => exact absurd h (by omega)
theorem va_P_swap {D : va_G} {cl : List vw_C} {ws : va_W} {H : Heap} {i a : Nat} {e e2 : va_E} (h : va_P D cl (ws.set i (a, e)) H) (hi : ws[i]? = some (a, e2)) (he : va_at D cl (a, e) H → va_at D cl (a, e2) H) : va_P D cl ws H := by
  intro k x hk
  have hl : i < ws.length := (List.getElem?_eq_some_iff.mp hi).1
  by_cases c : k = i
  · subst c
    rw [hi] at hk
    cases hk
    exact he (h k (a, e) (List.getElem?_set_self hl))
  · exact h k x (by rw [List.getElem?_set_ne (fun q => c q.symm)]; exact hk)
/-- addresses of a world that is told by places -/
theorem WX_ad (q : Nat → ClassId) (ad : Nat → Nat) (z : MX) : (WX q ad z).map (fun x => x.1) = (List.range 42).map ad := rfl
theorem WM_ad (q : Nat → ClassId) (ad : Nat → Nat) (z : MX) : (WM q ad z).map (fun x => x.1) = (List.range 20).map ad := rfl
theorem ad_of {ws : va_W} {ad : Nat → Nat} {n : Nat} (h : ws.map (fun x => x.1) = (List.range n).map ad) {k : Nat} {x : Nat × va_E} (hk : ws[k]? = some x) : k < n ∧ x.1 = ad k := by
  have h1 : (ws.map (fun x => x.1))[k]? = some x.1 := by rw [List.getElem?_map, hk]; rfl
  rw [h, List.getElem?_map] at h1
  by_cases c : k < n
  · rw [List.getElem?_range c] at h1
    exact ⟨c, (Option.some.inj h1).symm⟩
  · rw [List.getElem?_eq_none (by rw [List.length_range]; omega)] at h1
    cases h1
theorem D_of {ws : va_W} {ad : Nat → Nat} {n : Nat} (h : ws.map (fun x => x.1) = (List.range n).map ad) (hinj : ∀ i j, i < n → j < n → ad i = ad j → i = j) : va_D (fun x => ∃ k, k < n ∧ x = ad k) ws := by
  refine ⟨fun i j p q hi hj e => ?_, fun k q hk => ⟨k, (ad_of h hk).1, (ad_of h hk).2⟩⟩
  obtain ⟨h1, h2⟩ := ad_of h hi
  obtain ⟨h3, h4⟩ := ad_of h hj
  exact hinj i j h1 h3 (by rw [← h2, ← h4]; exact e)
theorem inj_of {A : Nat → Prop} {ws : va_W} {ad : Nat → Nat} {n : Nat} (hl : ws.length = n) (h : ws.map (fun x => x.1) = (List.range n).map ad) (hD : va_D A ws) : (∀ i j, i < n → j < n → ad i = ad j → i = j) ∧ ∀ k, k < n → A (ad k) := by
  have g : ∀ k, k < n → ∃ x, ws[k]? = some x ∧ x.1 = ad k := fun k hk => by
    have : k < ws.length := by omega
    exact ⟨ws[k], List.getElem?_eq_getElem this, (ad_of h (List.getElem?_eq_getElem this)).2⟩
  refine ⟨fun i j hi hj e => ?_, fun k hk => ?_⟩
  · obtain ⟨x, x1, x2⟩ := g i hi
    obtain ⟨y, y1, y2⟩ := g j hj
    exact hD.1 i j x y x1 y1 (by rw [x2, y2]; exact e)
  · obtain ⟨x, x1, x2⟩ := g k hk
    rw [← x2]
    exact hD.2 k x x1
def adL (as : List Nat) (kK kV : Nat → Nat) : Nat → Nat := fun k => if k < 42 then as.getD k 0 else if k < 200 then kK (k - 100) else kV (k - 200)
theorem adL_K (as : List Nat) (kK kV : Nat → Nat) (i : Nat) (h : i < 13) : adL as kK kV (100 + i) = kK i := by
  unfold adL
  rw [if_neg (by omega), if_pos (by omega), show 100 + i - 100 = i by omega]
theorem adL_V (as : List Nat) (kK kV : Nat → Nat) (i : Nat) (h : i < 13) : adL as kK kV (200 + i) = kV i := by
  unfold adL
  rw [if_neg (by omega), if_neg (by omega), show 200 + i - 200 = i by omega]
