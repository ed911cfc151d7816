/-! a line of the text: what comes of it -/
noncomputable def ci {α : Type} (P : Prop) (a b : α) : α := @ite _ P (Classical.propDecidable P) a b
theorem ci_y {α : Type} {P : Prop} {a b : α} (h : P) : ci P a b = a := by unfold ci; rw [if_pos h]
theorem ci_n {α : Type} {P : Prop} {a b : α} (h : ¬ P) : ci P a b = b := by unfold ci; rw [if_neg h]
noncomputable def nmC (n : Nat) (T : Nat → Nat) (q lo hi : Nat) : Nat := ci (tX n T q) 1 (if tK n T q ≠ 2 then 2 else if tV n T q < lo ∨ hi < tV n T q then 3 else 0)
noncomputable def smC (n : Nat) (T : Nat → Nat) (q : Nat) : Nat := ci (tX n T q) 1 (if tK n T q ≠ 3 then 2 else 0)
noncomputable def wyC (n : Nat) (T : Nat → Nat) (q : Nat) : Nat := ci (tX n T q) 1 (if wd n T q < 11 ∨ wd n T q = 13 then 2 else 0)
theorem nmC_0 {n : Nat} {T : Nat → Nat} {q lo hi : Nat} (h : nmC n T q lo hi = 0) : ¬ tX n T q ∧ tK n T q = 2 ∧ lo ≤ tV n T q ∧ tV n T q ≤ hi := by
  unfold nmC at h
  by_cases c : tX n T q
  · rw [ci_y c] at h; omega
  · rw [ci_n c] at h
    by_cases d : tK n T q ≠ 2
    · rw [if_pos d] at h; omega
    · rw [if_neg d] at h
      by_cases e : tV n T q < lo ∨ hi < tV n T q
      · rw [if_pos e] at h; omega
      · exact ⟨c, by omega, by omega, by omega⟩
theorem nmC_1 {n : Nat} {T : Nat → Nat} {q lo hi : Nat} (h : tX n T q) : nmC n T q lo hi = 1 := ci_y h
theorem nmC_2 {n : Nat} {T : Nat → Nat} {q lo hi : Nat} (h : ¬ tX n T q) (h2 : tK n T q ≠ 2) : nmC n T q lo hi = 2 := by unfold nmC; rw [ci_n h, if_pos h2]
theorem nmC_3 {n : Nat} {T : Nat → Nat} {q lo hi : Nat} (h : ¬ tX n T q) (h2 : tK n T q = 2) (h3 : tV n T q < lo ∨ hi < tV n T q) : nmC n T q lo hi = 3 := by unfold nmC; rw [ci_n h, if_neg (fun w => w h2), if_pos h3]
theorem nmC_4 {n : Nat} {T : Nat → Nat} {q lo hi : Nat} (h : ¬ tX n T q) (h2 : tK n T q = 2) (h3 : lo ≤ tV n T q) (h4 : tV n T q ≤ hi) : nmC n T q lo hi = 0 := by unfold nmC; rw [ci_n h, if_neg (fun w => w h2), if_neg (by omega)]
theorem nmC_le (n : Nat) (T : Nat → Nat) (q lo hi : Nat) : nmC n T q lo hi ≤ 3 := by
  by_cases c : tX n T q
  · rw [nmC_1 c]; omega
  · by_cases d : tK n T q = 2
    · by_cases e : tV n T q < lo ∨ hi < tV n T q
      · rw [nmC_3 c d e]; omega
      · rw [nmC_4 c d (by omega) (by omega)]; omega
    · rw [nmC_2 c d]; omega
theorem tK_lt (n : Nat) (T : Nat → Nat) (p : Nat) : tK n T p < 4 := by
  unfold tK
  by_cases c : n ≤ tS n T p
  · rw [if_pos c]; omega
  · rw [if_neg c]
    by_cases d : 97 ≤ T (tS n T p) ∧ T (tS n T p) ≤ 122
    · rw [if_pos d]; omega
    · rw [if_neg d]
      by_cases e : 48 ≤ T (tS n T p) ∧ T (tS n T p) ≤ 57
      · rw [if_pos e]; omega
      · rw [if_neg e]; omega
theorem tV_lt {n : Nat} {T : Nat → Nat} (hT : ∀ k, k < n → T k < 128) {p : Nat} (hp : p ≤ n) (hx : ¬ tX n T p) (hk : tK n T p = 2) : tV n T p < 2000 := by
  have bs := tS_b (T := T) hp
  have be := tE_b (T := T) hp
  have hs : tS n T p < n := by
    refine Classical.byContradiction (fun w => ?_)
    have := (tk0 (T := T) (p := p) (n := n) (by omega)).1
    omega
  have h1 := hT _ hs
  unfold tX at hx
  unfold tV
  by_cases c : tE n T p - tS n T p = 1
  · rw [if_pos c]; omega
  · rw [if_neg c]
    by_cases d : tS n T p + 1 < n
    · have := hT _ d; omega
    · have d1 : 48 ≤ T (tS n T p) ∧ T (tS n T p) ≤ 57 := by
        refine Classical.byContradiction (fun w => ?_)
        by_cases c1 : 97 ≤ T (tS n T p) ∧ T (tS n T p) ≤ 122
        · have := (tk1 hs c1).1; omega
        · have := (tk3 hs c1 w).1; omega
      have := tk2 hs d1
      omega
/-- state: line, whether blocks are told, one more than the highest block, the place behind -/
abbrev PS : Type := AL × Nat × Nat × Nat
def lkA (A : AL) (u v : Nat) : AL := Au (Au (Au A 2 (2 * A 0 2) u) 2 (2 * A 0 2 + 1) v) 0 2 (A 0 2 + 1)
def trA (A : AL) (f w s v : Nat) : AL := Au (Au (Au (Au (Au A 3 (4 * A 0 1) f) 3 (4 * A 0 1 + 1) w) 3 (4 * A 0 1 + 2) s) 3 (4 * A 0 1 + 3) v) 0 1 (A 0 1 + 1)
noncomputable def oBl (n : Nat) (T : Nat → Nat) (A : AL) (bt hb p q : Nat) : Nat × Nat × PS :=
  if bt ≠ 0 then (4, tS n T p, A, bt, hb, p) else if nmC n T q 2 8 ≠ 0 then (nmC n T q 2 8, tS n T q, A, bt, hb, p) else (0, 0, Au A 0 0 (tV n T q), 1, hb, tE n T q)
noncomputable def oOm (n : Nat) (T : Nat → Nat) (A : AL) (bt hb p q w : Nat) : Nat × Nat × PS :=
  if nmC n T q 0 7 ≠ 0 then (nmC n T q 0 7, tS n T q, A, bt, hb, p) else if A 1 (tV n T q) ≠ 0 then (4, tS n T q, A, bt, hb, p) else (0, 0, Au A 1 (tV n T q) w, bt, max hb (tV n T q + 1), tE n T q)
noncomputable def oGu (n : Nat) (T : Nat → Nat) (A : AL) (bt hb p q : Nat) : Nat × Nat × PS :=
  if nmC n T q 0 7 ≠ 0 then (nmC n T q 0 7, tS n T q, A, bt, hb, p) else if A 0 3 / 2 ^ tV n T q % 2 = 1 then (4, tS n T q, A, bt, hb, p) else (0, 0, Au A 0 3 (A 0 3 ||| 2 ^ tV n T q), bt, max hb (tV n T q + 1), tE n T q)
noncomputable def oLk (n : Nat) (T : Nat → Nat) (A : AL) (bt hb p q : Nat) : Nat × Nat × PS :=
  if 4 ≤ A 0 2 then (5, tS n T p, A, bt, hb, p) else if nmC n T q 0 7 ≠ 0 then (nmC n T q 0 7, tS n T q, A, bt, hb, p) else if nmC n T (tE n T q) 0 7 ≠ 0 then (nmC n T (tE n T q) 0 7, tS n T (tE n T q), A, bt, hb, p) else if tV n T (tE n T q) = tV n T q then (3, tS n T (tE n T q), A, bt, hb, p) else (0, 0, lkA A (tV n T q) (tV n T (tE n T q)), bt, max (max hb (tV n T q + 1)) (tV n T (tE n T q) + 1), tE n T (tE n T q))
noncomputable def oTr (n : Nat) (T : Nat → Nat) (A : AL) (bt hb p q f : Nat) : Nat × Nat × PS :=
  if 4 ≤ A 0 1 then (5, tS n T p, A, bt, hb, p) else if wyC n T q ≠ 0 then (wyC n T q, tS n T q, A, bt, hb, p) else if nmC n T (tE n T q) 0 9 ≠ 0 then (nmC n T (tE n T q) 0 9, tS n T (tE n T q), A, bt, hb, p) else if nmC n T (tE n T (tE n T q)) 0 9 ≠ 0 then (nmC n T (tE n T (tE n T q)) 0 9, tS n T (tE n T (tE n T q)), A, bt, hb, p) else (0, 0, trA A f (wd n T q - 11) (tV n T (tE n T q)) (tV n T (tE n T (tE n T q))), bt, hb, tE n T (tE n T (tE n T q)))
noncomputable def oBd (n : Nat) (T : Nat → Nat) (A : AL) (bt hb p : Nat) : Nat × Nat × PS :=
  if wd n T p = 0 then oBl n T A bt hb p (tE n T p) else if wd n T p ≤ 4 then oOm n T A bt hb p (tE n T p) (wd n T p) else if wd n T p = 5 then oGu n T A bt hb p (tE n T p) else if wd n T p = 6 then oLk n T A bt hb p (tE n T p) else if wd n T p ≤ 10 then oTr n T A bt hb p (tE n T p) (wd n T p - 7) else (2, tS n T p, A, bt, hb, p)
noncomputable def oSm (n : Nat) (T : Nat → Nat) (o : Nat × Nat × PS) : Nat × Nat × PS :=
  if o.1 ≠ 0 then o else if smC n T o.2.2.2.2.2 ≠ 0 then (smC n T o.2.2.2.2.2, tS n T o.2.2.2.2.2, o.2.2) else (0, 0, o.2.2.1, o.2.2.2.1, o.2.2.2.2.1, tE n T o.2.2.2.2.2)
noncomputable def oLn (n : Nat) (T : Nat → Nat) (A : AL) (bt hb p : Nat) : Nat × Nat × PS := oSm n T (oBd n T A bt hb p)
/-- a block is spoken of -/
def tdP (A : AL) (b : Nat) : Prop := A 1 b ≠ 0 ∨ A 0 3 / 2 ^ b % 2 = 1 ∨ ∃ j, j < 2 * A 0 2 ∧ A 2 j = b
def DOK (A : AL) (hb : Nat) : Prop := 2 ≤ A 0 0 ∧ A 0 0 ≤ 8 ∧ A 0 1 ≤ 4 ∧ A 0 2 ≤ 4 ∧ A 0 3 < 256 ∧ (∀ b, b < 8 → A 1 b < 5) ∧ (∀ j, j < 2 * A 0 2 → A 2 j < 8) ∧ (∀ t, t < A 0 1 → A 3 (4 * t) < 4 ∧ A 3 (4 * t + 1) < 2 ∧ A 3 (4 * t + 2) < 10 ∧ A 3 (4 * t + 3) < 10) ∧ hb ≤ 8 ∧ (∀ b, b < 8 → tdP A b → b < hb) ∧ (hb = 0 ∨ tdP A (hb - 1))
theorem tbit (x i : Nat) : x / 2 ^ i % 2 = 1 ↔ x.testBit i = true := by
  rw [Nat.testBit_eq_decide_div_mod_eq, decide_eq_true_iff]
theorem orb (a b i : Nat) : (a ||| b) / 2 ^ i % 2 = 1 ↔ a / 2 ^ i % 2 = 1 ∨ b / 2 ^ i % 2 = 1 := by
  rw [tbit, tbit, tbit, Nat.testBit_or, Bool.or_eq_true]
theorem p2b (v i : Nat) : 2 ^ v / 2 ^ i % 2 = 1 ↔ i = v := by
  rw [tbit, Nat.testBit_two_pow, decide_eq_true_iff]
  exact ⟨fun h => h.symm, fun h => h.symm⟩
/-- one more block is spoken of -/
theorem DOK.more {A A2 : AL} {hb v : Nat} (h : DOK A hb) (hv : v < 8) (ht : ∀ b, b < 8 → (tdP A2 b ↔ tdP A b ∨ b = v)) : max hb (v + 1) ≤ 8 ∧ (∀ b, b < 8 → tdP A2 b → b < max hb (v + 1)) ∧ (max hb (v + 1) = 0 ∨ tdP A2 (max hb (v + 1) - 1)) := by
  obtain ⟨_, _, _, _, _, _, _, _, h9, h10, h11⟩ := h
  refine ⟨by omega, fun b hb2 t => ?_, Or.inr ?_⟩
  · rcases (ht b hb2).mp t with t | t
    · have := h10 b hb2 t; omega
    · omega
  · by_cases c : hb ≤ v
    · rw [show max hb (v + 1) - 1 = v by omega]
      exact (ht v hv).mpr (Or.inr rfl)
    · rw [show max hb (v + 1) - 1 = hb - 1 by omega]
      rcases h11 with h11 | h11
      · omega
      · exact (ht (hb - 1) (by omega)).mpr (Or.inl h11)
theorem DOK.bl {A : AL} {hb v : Nat} (h : DOK A hb) (h1 : 2 ≤ v) (h2 : v ≤ 8) : DOK (Au A 0 0 v) hb := by
  have t : ∀ b, tdP (Au A 0 0 v) b ↔ tdP A b := fun b => by
    unfold tdP
    simp only [Au_g]
    simp
  obtain ⟨_, _, a3, a4, a5, a6, a7, a8, a9, a10, a11⟩ := h
  unfold DOK
  simp only [t]
  simp only [Au_g]
  simp
  exact ⟨h1, h2, a3, a4, a5, a6, a7, a8, a9, a10, a11⟩
theorem DOK.om {A : AL} {hb v w : Nat} (h : DOK A hb) (hv : v < 8) (h0 : A 1 v = 0) (hw : 1 ≤ w) (hw2 : w ≤ 4) : DOK (Au A 1 v w) (max hb (v + 1)) := by
  have t : ∀ b, b < 8 → (tdP (Au A 1 v w) b ↔ tdP A b ∨ b = v) := fun b _ => by
    unfold tdP
    simp only [Au_g]
    by_cases e : b = v
    · simp [e]; left; omega
    · simp [e]
  have m := h.more hv t
  obtain ⟨a1, a2, a3, a4, a5, a6, a7, a8, a9, a10, a11⟩ := h
  refine ⟨a1, a2, a3, a4, a5, fun b hb => ?_, a7, a8, m.1, m.2.1, m.2.2⟩
  rw [Au_g]
  by_cases e : 1 = 1 ∧ b = v
  · rw [if_pos e]; omega
  · rw [if_neg e]; exact a6 b hb
theorem DOK.gu {A : AL} {hb v : Nat} (h : DOK A hb) (hv : v < 8) : DOK (Au A 0 3 (A 0 3 ||| 2 ^ v)) (max hb (v + 1)) := by
  have t : ∀ b, b < 8 → (tdP (Au A 0 3 (A 0 3 ||| 2 ^ v)) b ↔ tdP A b ∨ b = v) := fun b _ => by
    unfold tdP
    have e3 : Au A 0 3 (A 0 3 ||| 2 ^ v) 0 3 = A 0 3 ||| 2 ^ v := by rw [Au_g]; rfl
    have e1 : Au A 0 3 (A 0 3 ||| 2 ^ v) 1 = A 1 := by funext k; rw [Au_g, if_neg (by omega)]
    have e2 : Au A 0 3 (A 0 3 ||| 2 ^ v) 2 = A 2 := by funext k; rw [Au_g, if_neg (by omega)]
    have e4 : Au A 0 3 (A 0 3 ||| 2 ^ v) 0 2 = A 0 2 := by rw [Au_g, if_neg (by omega)]
    rw [e3, e1, e2, e4, orb, p2b]
    exact ⟨fun q => by
      rcases q with q | (q | q) | q
      · exact Or.inl (Or.inl q)
      · exact Or.inl (Or.inr (Or.inl q))
      · exact Or.inr q
      · exact Or.inl (Or.inr (Or.inr q)), fun q => by
      rcases q with (q | q | q) | q
      · exact Or.inl q
      · exact Or.inr (Or.inl (Or.inl q))
      · exact Or.inr (Or.inr q)
      · exact Or.inr (Or.inl (Or.inr q))⟩
  have m := h.more hv t
  obtain ⟨a1, a2, a3, a4, a5, a6, a7, a8, a9, a10, a11⟩ := h
  refine ⟨a1, a2, a3, a4, ?_, a6, a7, a8, m.1, m.2.1, m.2.2⟩
  have e3 : Au A 0 3 (A 0 3 ||| 2 ^ v) 0 3 = A 0 3 ||| 2 ^ v := by rw [Au_g]; rfl
  rw [e3]
  exact or_lt a5 (Nat.pow_lt_pow_right (by decide) hv : 2 ^ v < 2 ^ 8)
theorem lkA_02 (A : AL) (u v : Nat) : lkA A u v 0 2 = A 0 2 + 1 := by unfold lkA; rw [Au_g]; rfl
theorem lkA_0 (A : AL) (u v : Nat) {k : Nat} (h : k ≠ 2) : lkA A u v 0 k = A 0 k := by unfold lkA; rw [Au_g, if_neg (by omega), Au_g, if_neg (by omega), Au_g, if_neg (by omega)]
theorem lkA_n (A : AL) (u v : Nat) {a : Nat} (h : a ≠ 0) (h2 : a ≠ 2) : lkA A u v a = A a := by
  funext k
  unfold lkA
  rw [Au_g, if_neg (by omega), Au_g, if_neg (by omega), Au_g, if_neg (by omega)]
theorem lkA_2 (A : AL) (u v j : Nat) : lkA A u v 2 j = if j = 2 * A 0 2 + 1 then v else if j = 2 * A 0 2 then u else A 2 j := by
  unfold lkA
  rw [Au_g, if_neg (by omega), Au_g]
  by_cases c : j = 2 * A 0 2 + 1
  · rw [if_pos ⟨rfl, c⟩, if_pos c]
  · rw [if_neg (fun w => c w.2), if_neg c, Au_g]
    by_cases d : j = 2 * A 0 2
    · rw [if_pos ⟨rfl, d⟩, if_pos d]
    · rw [if_neg (fun w => d w.2), if_neg d]
theorem DOK.lk {A : AL} {hb u v : Nat} (h : DOK A hb) (hu : u < 8) (hv : v < 8) (hl : A 0 2 < 4) : DOK (lkA A u v) (max (max hb (u + 1)) (v + 1)) := by
  have t : ∀ b, (tdP (lkA A u v) b ↔ tdP A b ∨ b = u ∨ b = v) := fun b => by
    unfold tdP
    rw [lkA_02, lkA_0 A u v (by decide), lkA_n A u v (by decide) (by decide)]
    constructor
    · rintro (q | q | ⟨j, j1, j2⟩)
      · exact Or.inl (Or.inl q)
      · exact Or.inl (Or.inr (Or.inl q))
      · rw [lkA_2] at j2
        by_cases c : j = 2 * A 0 2 + 1
        · rw [if_pos c] at j2; exact Or.inr (Or.inr j2.symm)
        · rw [if_neg c] at j2
          by_cases d : j = 2 * A 0 2
          · rw [if_pos d] at j2; exact Or.inr (Or.inl j2.symm)
          · rw [if_neg d] at j2; exact Or.inl (Or.inr (Or.inr ⟨j, by omega, j2⟩))
    · rintro ((q | q | ⟨j, j1, j2⟩) | q | q)
      · exact Or.inl q
      · exact Or.inr (Or.inl q)
      · exact Or.inr (Or.inr ⟨j, by omega, by rw [lkA_2, if_neg (by omega), if_neg (by omega)]; exact j2⟩)
      · exact Or.inr (Or.inr ⟨2 * A 0 2, by omega, by rw [lkA_2, if_neg (by omega), if_pos rfl]; exact q.symm⟩)
      · exact Or.inr (Or.inr ⟨2 * A 0 2 + 1, by omega, by rw [lkA_2, if_pos rfl]; exact q.symm⟩)
  obtain ⟨a1, a2, a3, a4, a5, a6, a7, a8, a9, a10, a11⟩ := h
  unfold DOK
  rw [lkA_02, lkA_0 A u v (by decide), lkA_0 A u v (by decide), lkA_0 A u v (by decide), lkA_n A u v (a := 1) (by decide) (by decide), lkA_n A u v (a := 3) (by decide) (by decide)]
  refine ⟨a1, a2, a3, by omega, a5, a6, fun j hj => ?_, a8, by omega, fun b hb2 q => ?_, Or.inr ?_⟩
  · rw [lkA_2]
    by_cases c : j = 2 * A 0 2 + 1
    · rw [if_pos c]; exact hv
    · rw [if_neg c]
      by_cases d : j = 2 * A 0 2
      · rw [if_pos d]; exact hu
      · rw [if_neg d]; exact a7 j (by omega)
  · rcases (t b).mp q with q | q | q
    · have := a10 b hb2 q; omega
    · omega
    · omega
  · by_cases c : max hb (u + 1) ≤ v
    · rw [show max (max hb (u + 1)) (v + 1) - 1 = v by omega]
      exact (t v).mpr (Or.inr (Or.inr rfl))
    · by_cases d : hb ≤ u
      · rw [show max (max hb (u + 1)) (v + 1) - 1 = u by omega]
        exact (t u).mpr (Or.inr (Or.inl rfl))
      · rw [show max (max hb (u + 1)) (v + 1) - 1 = hb - 1 by omega]
        rcases a11 with a11 | a11
        · omega
        · exact (t _).mpr (Or.inl a11)
theorem trA_01 (A : AL) (f w s v : Nat) : trA A f w s v 0 1 = A 0 1 + 1 := by unfold trA; rw [Au_g]; rfl
theorem trA_0 (A : AL) (f w s v : Nat) {k : Nat} (h : k ≠ 1) : trA A f w s v 0 k = A 0 k := by unfold trA; rw [Au_g, if_neg (by omega), Au_g, if_neg (by omega), Au_g, if_neg (by omega), Au_g, if_neg (by omega), Au_g, if_neg (by omega)]
theorem trA_n (A : AL) (f w s v : Nat) {a : Nat} (h : a ≠ 0) (h2 : a ≠ 3) : trA A f w s v a = A a := by
  funext k
  unfold trA
  rw [Au_g, if_neg (by omega), Au_g, if_neg (by omega), Au_g, if_neg (by omega), Au_g, if_neg (by omega), Au_g, if_neg (by omega)]
def trV (f w s v x : Nat) : Nat := if x = 0 then f else if x = 1 then w else if x = 2 then s else v
theorem trA_3 (A : AL) (f w s v : Nat) {u x : Nat} (hx : x < 4) : trA A f w s v 3 (4 * u + x) = if u = A 0 1 then trV f w s v x else A 3 (4 * u + x) := by
  unfold trA trV
  simp only [Au_g]
  by_cases c : u = A 0 1
  · rw [if_pos c, c]
    have : x = 0 ∨ x = 1 ∨ x = 2 ∨ x = 3 := by omega
    rcases this with e | e | e | e <;> subst e <;> simp
  · rw [if_neg c, if_neg (by omega), if_neg (by omega), if_neg (by omega), if_neg (by omega), if_neg (by omega)]
theorem DOK.tr {A : AL} {hb f w s v : Nat} (h : DOK A hb) (hl : A 0 1 < 4) (hf : f < 4) (hw : w < 2) (hs : s < 10) (hv : v < 10) : DOK (trA A f w s v) hb := by
  have t : ∀ b, (tdP (trA A f w s v) b ↔ tdP A b) := fun b => by
    unfold tdP
    rw [trA_0 A f w s v (by decide), trA_0 A f w s v (by decide), trA_n A f w s v (by decide) (by decide), trA_n A f w s v (by decide) (by decide)]
  obtain ⟨a1, a2, a3, a4, a5, a6, a7, a8, a9, a10, a11⟩ := h
  unfold DOK
  simp only [t]
  rw [trA_01, trA_0 A f w s v (by decide), trA_0 A f w s v (by decide), trA_0 A f w s v (by decide), trA_n A f w s v (by decide) (by decide), trA_n A f w s v (by decide) (by decide)]
  refine ⟨a1, a2, by omega, a4, a5, a6, a7, fun u hu => ?_, a9, a10, a11⟩
  have e0 := trA_3 A f w s v (u := u) (x := 0) (by decide)
  rw [Nat.add_zero] at e0
  rw [e0, trA_3 A f w s v (by decide), trA_3 A f w s v (by decide), trA_3 A f w s v (by decide)]
  by_cases c : u = A 0 1
  · rw [if_pos c, if_pos c, if_pos c, if_pos c]
    exact ⟨hf, hw, hs, hv⟩
  · rw [if_neg c, if_neg c, if_neg c, if_neg c]
    exact a8 u (by omega)
