/-! the state: reading behind a write -/
theorem mw_g (z : MX) (c k : Nat) (v : Int32) (a b : Nat) : (mw z c k v).1 a b = if a = c ∧ b = k then v else z.1 a b := by
  unfold mw mf upd
  by_cases h : a = c
  · subst h
    simp
  · simp [h]
theorem mf_g (z : MX) (c : Nat) (f : Nat → Int32) (a b : Nat) : (mf z c f).1 a b = if a = c then f b else z.1 a b := by
  unfold mf
  by_cases h : a = c
  · simp [h]
  · simp [h]
theorem mw_2 (z : MX) (c k : Nat) (v : Int32) : (mw z c k v).2 = z.2 := rfl
theorem mf_2 (z : MX) (c : Nat) (f : Nat → Int32) : (mf z c f).2 = z.2 := rfl
theorem mw_n (z : MX) {c a : Nat} (k : Nat) (v : Int32) (h : a ≠ c) : (mw z c k v).1 a = z.1 a := by
  funext b
  rw [mw_g]
  simp [h]
theorem mw_k (z : MX) {c k b : Nat} (v : Int32) (h : b ≠ k) : (mw z c k v).1 c b = z.1 c b := by
  rw [mw_g]
  simp [h]
theorem mw_s (z : MX) (c k : Nat) (v : Int32) : (mw z c k v).1 c k = v := by
  rw [mw_g]
  simp
/-- since z nothing has changed but cells from lo to hi -/
def fr (lo hi : Nat) (z z1 : MX) : Prop := (∀ c, c < lo ∨ hi < c → z1.1 c = z.1 c) ∧ z1.2 = z.2
theorem fr.rf (lo hi : Nat) (z : MX) : fr lo hi z z := ⟨fun _ _ => rfl, rfl⟩
theorem fr.tr {lo hi : Nat} {z z1 z2 : MX} (h : fr lo hi z z1) (h2 : fr lo hi z1 z2) : fr lo hi z z2 := ⟨fun c hc => (h2.1 c hc).trans (h.1 c hc), h2.2.trans h.2⟩
theorem fr.mw {lo hi : Nat} {z z1 : MX} (h : fr lo hi z z1) {c : Nat} (k : Nat) (v : Int32) (h1 : lo ≤ c) (h2 : c ≤ hi) : fr lo hi z (mw z1 c k v) := ⟨fun a ha => by rw [mw_n _ _ _ (by omega)]; exact h.1 a ha, h.2⟩
theorem fr.mf {lo hi : Nat} {z z1 : MX} (h : fr lo hi z z1) {c : Nat} (f : Nat → Int32) (h1 : lo ≤ c) (h2 : c ≤ hi) : fr lo hi z (mf z1 c f) := ⟨fun a ha => by rw [mf_ne _ _ (by omega)]; exact h.1 a ha, h.2⟩
theorem fr.wide {lo hi lo2 hi2 : Nat} {z z1 : MX} (h : fr lo hi z z1) (h1 : lo2 ≤ lo) (h2 : hi ≤ hi2) : fr lo2 hi2 z z1 := ⟨fun c hc => h.1 c (by omega), h.2⟩
/-! numbers -/
theorem lc_lt (a b : Int64) : lg_cmp a b < 0 ↔ a < b := by
  unfold lg_cmp
  by_cases h1 : a > b
  · simp only [if_pos h1]
    exact ⟨fun h => absurd h (by decide), fun h => (Int64.lt_irrefl (Int64.lt_trans h h1)).elim⟩
  · by_cases h2 : a = b
    · simp only [if_neg h1, if_pos h2]
      exact ⟨fun h => absurd h (by decide), fun h => by rw [h2] at h; exact (Int64.lt_irrefl h).elim⟩
    · simp only [if_neg h1, if_neg h2]
      refine ⟨fun _ => ?_, fun _ => by decide⟩
      rw [fa_lt64]
      rw [GT.gt, fa_lt64] at h1
      rw [fa_eq64] at h2
      omega
theorem lc_gt (a b : Int64) : 0 < lg_cmp a b ↔ b < a := by
  unfold lg_cmp
  by_cases h1 : a > b
  · simp only [if_pos h1]
    exact ⟨fun _ => h1, fun _ => by decide⟩
  · by_cases h2 : a = b
    · simp only [if_neg h1, if_pos h2]
      exact ⟨fun h => absurd h (by decide), fun h => absurd h h1⟩
    · simp only [if_neg h1, if_neg h2]
      exact ⟨fun h => absurd h (by decide), fun h => absurd h h1⟩
theorem s_in (z : MX) (x lo hi : Int32) (post : Int32 → MX → Prop) (h : post (if lo ≤ x ∧ x ≤ hi then 1 else 0) z) : pX8_in z x.toInt64 lo.toInt64 hi.toInt64 post := by
  unfold pX8_in
  rw [lc_lt, lc_gt, fa_wide_lt, fa_wide_lt]
  refine ⟨fun c => ⟨Or.inl rfl, ?_⟩, fun c => ⟨fun d => ⟨Or.inl rfl, ?_⟩, fun d => ⟨Or.inr rfl, ?_⟩⟩⟩
  · rw [if_neg (by grind)] at h
    exact h
  · rw [if_neg (by grind)] at h
    exact h
  · rw [if_pos (by grind)] at h
    exact h
theorem s_inY (z : MX) {x lo hi : Int32} (post : Int32 → MX → Prop) (h1 : lo ≤ x) (h2 : x ≤ hi) (h : post 1 z) : pX8_in z x.toInt64 lo.toInt64 hi.toInt64 post := s_in z x lo hi post (by rw [if_pos ⟨h1, h2⟩]; exact h)
theorem s_inN (z : MX) {x lo hi : Int32} (post : Int32 → MX → Prop) (h1 : x < lo ∨ hi < x) (h : post 0 z) : pX8_in z x.toInt64 lo.toInt64 hi.toInt64 post := s_in z x lo hi post (by rw [if_neg (by grind)]; exact h)
theorem nI_m1 {n : Nat} (h : 0 < n) : nI n - 1 = nI (n - 1) := by
  obtain ⟨k, rfl⟩ : ∃ k, n = k + 1 := ⟨n - 1, by omega⟩
  rw [nI_pred]
  rfl
theorem nI_ge0 {n : Nat} (h : n < 2 ^ 31) : (0 : Int32) ≤ nI n := nI_pos' h
theorem nI_neg {n : Nat} (h : n < 2 ^ 31) (v : Int32) (hv : v < 0) : nI n ≠ v := fun e => nI_pos h (e ▸ hv)
theorem pk_1or {x : Int32} : x &&& 1 = 0 ∨ x &&& 1 = 1 := by
  obtain ⟨j, hj, h⟩ := pk_andE x (m := 1) 1 (by decide)
  have : j = 0 ∨ j = 1 := by omega
  rcases this with rfl | rfl
  · exact Or.inl h
  · exact Or.inr h
