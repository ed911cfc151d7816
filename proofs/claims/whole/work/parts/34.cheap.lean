/-! costs are small numbers; the cheapest guards; convert -/
def Hm (r : RS) (M : Nat) : Prop := ∀ t, r 2 t = -4 ∨ ∃ m, m < M ∧ r 2 t = nI m
theorem Hm_step {A : AL} {r : RS} {M : Nat} (h : Hm r M) {t m : Nat} (hm : m < M) : Hm (aStep A r t m) M := by
  have same : ∀ q : RS, q 2 = r 2 → Hm q M := fun q e u => by rw [e]; exact h u
  unfold aStep
  by_cases l : r 0 t = aLast A t
  · rw [if_pos l]
    intro u
    simp only [ru_g]
    simp
    by_cases e : u = t
    · simp [e]; exact Or.inr ⟨m, hm, rfl⟩
    · simp [e]; exact h u
  · rw [if_neg l]
    by_cases w : aW A r t ≤ 0
    · rw [if_pos w]
      unfold aEnter
      by_cases o : occF (ru r 1 t (aW A r t) 0) (aNext A t (r 0 t)) 0 (A 0 1) = -4
      · rw [if_pos o]; exact same _ (by funext b; simp [ru_g])
      · rw [if_neg o]
        by_cases g : ((nI (A 0 3) >>> (aNext A t (r 0 t) &&& 31)) &&& 1) = 0
        · rw [if_pos g]; exact same _ (by funext b; simp [ru_g])
        · rw [if_neg g]; exact same _ (by funext b; simp [ru_g])
    · rw [if_neg w]; exact same _ (by funext b; simp [ru_g])
theorem Hm_min {A : AL} {r : RS} {M m : Nat} (h : Hm r M) (hm : m < M) : ∀ k, Hm (aMin A m k r) M := by
  intro k
  induction k with
  | zero => exact h
  | succ k ih =>
    rw [aMin_s]
    by_cases c : aMin A m k r 3 0 = -4 ∧ aMin A m k r 2 k = -4 ∧ A 3 (4 * k + 2) ≤ m
    · rw [if_pos c]; exact Hm_step ih hm
    · rw [if_neg c]; exact ih
theorem Hm_tr {A : AL} : ∀ m, m ≤ 120 → Hm (aTr A m) 120 := by
  intro m
  induction m with
  | zero => intro _ t; left; show aBeg 2 t = -4; unfold aBeg; simp
  | succ m ih => intro hm; exact Hm_min (ih (by omega)) (by omega) _
theorem cost_b {A : AL} (hA : ROK A) : ∃ c, c ≤ 4320 ∧ aCost A (aTr A 120) (A 0 1) = nI c := by
  have hT := hA.2.2.1
  have hm := Hm_tr (A := A) 120 (Nat.le_refl _)
  have key : ∀ k, k ≤ A 0 1 → ∃ c, c ≤ k * 1080 ∧ aCost A (aTr A 120) k = nI c := by
    intro k
    induction k with
    | zero => intro _; exact ⟨0, Nat.zero_le _, by show (0 : Int32) = nI 0; exact nI_0.symm⟩
    | succ k ih =>
      intro hk
      obtain ⟨c, c1, c2⟩ := ih (by omega)
      have hw := (hA.2.2.2.2 k (by omega)).2.2.2
      have : ∃ d, d ≤ 120 ∧ (if aTr A 120 2 k = -4 then 120 else aTr A 120 2 k) = nI d := by
        rcases hm k with e | ⟨m, m1, e⟩
        · rw [if_pos e]; exact ⟨120, Nat.le_refl _, rfl⟩
        · rw [if_neg (by rw [e]; exact nI_neg (by omega) _ (by decide)), e]; exact ⟨m, by omega, rfl⟩
      obtain ⟨d, d1, d2⟩ := this
      refine ⟨c + d * A 3 (4 * k + 3), ?_, ?_⟩
      · have : d * A 3 (4 * k + 3) ≤ 120 * 9 := Nat.mul_le_mul d1 (by omega)
        omega
      · show aCost A (aTr A 120) k + _ * _ = _
        rw [c2, d2, pk_mul, nI_add]
  obtain ⟨c, c1, c2⟩ := key (A 0 1) (Nat.le_refl _)
  exact ⟨c, by omega, c2⟩
def gdK (F : Nat → AL) (k : Nat) : Prop := cO (aTr (F k) 120) (F k 0 1) = 0
def csK (F : Nat → AL) (k : Nat) : Int32 := aCost (F k) (aTr (F k) 120) (F k 0 1)
noncomputable def chC (F : Nat → AL) : Nat → Int32
  | 0 => -4
  | k + 1 => @ite _ (gdK F k ∧ (chC F k = -4 ∨ csK F k < chC F k)) (Classical.propDecidable _) (csK F k) (chC F k)
noncomputable def chB (F : Nat → AL) : Nat → Int32
  | 0 => -4
  | k + 1 => @ite _ (gdK F k ∧ (chC F k = -4 ∨ csK F k < chC F k)) (Classical.propDecidable _) (nI k) (chB F k)
theorem ch_y {F : Nat → AL} {k : Nat} (h : gdK F k ∧ (chC F k = -4 ∨ csK F k < chC F k)) : chC F (k + 1) = csK F k ∧ chB F (k + 1) = nI k := by
  constructor
  · show @ite _ _ (Classical.propDecidable _) _ _ = _
    rw [if_pos h]
  · show @ite _ _ (Classical.propDecidable _) _ _ = _
    rw [if_pos h]
theorem ch_n {F : Nat → AL} {k : Nat} (h : ¬ (gdK F k ∧ (chC F k = -4 ∨ csK F k < chC F k))) : chC F (k + 1) = chC F k ∧ chB F (k + 1) = chB F k := by
  constructor
  · show @ite _ _ (Classical.propDecidable _) _ _ = _
    rw [if_neg h]
  · show @ite _ _ (Classical.propDecidable _) _ _ = _
    rw [if_neg h]
theorem ch_ok {F : Nat → AL} {N : Nat} (hF : ∀ k, k < N → ROK (F k)) : ∀ k, k ≤ N → (chC F k = -4 ∧ chB F k = -4) ∨ ∃ c j, c ≤ 4320 ∧ j < k ∧ chC F k = nI c ∧ chB F k = nI j := by
  intro k
  induction k with
  | zero => intro _; exact Or.inl ⟨rfl, rfl⟩
  | succ k ih =>
    intro hk
    by_cases h : gdK F k ∧ (chC F k = -4 ∨ csK F k < chC F k)
    · obtain ⟨c, c1, c2⟩ := cost_b (hF k (by omega))
      rw [(ch_y h).1, (ch_y h).2]
      exact Or.inr ⟨c, k, c1, by omega, c2, rfl⟩
    · rw [(ch_n h).1, (ch_n h).2]
      rcases ih (by omega) with q | ⟨c, j, q1, q2, q3⟩
      · exact Or.inl q
      · exact Or.inr ⟨c, j, q1, by omega, q3⟩
theorem sX_cheap {z : MX} {F : Nat → AL} {k : Nat} (hF : ROK (F k)) (h3 : z.1 (4 * 1) 3 = nI (F k 0 1)) (hR : RX z (aTr (F k) 120)) (hc : z.1 26 8 = csK F k) (hb : z.1 31 2 = chC F k) (post : Int32 → MX → Prop) (h1 : (gdK F k ∧ (chC F k = -4 ∨ csK F k < chC F k)) → ∀ z1, z1 = mw z 31 2 (csK F k) → post 1 z1) (h0 : ¬ (gdK F k ∧ (chC F k = -4 ∨ csK F k < chC F k)) → post 0 z) : pX6_allAreHomeCheaper z post := by
  have hT := hF.2.2.1
  have hco := cO_le (aTr (F k) 120) (F k 0 1)
  unfold pX6_allAreHomeCheaper pX6_allAreHomeCheaper_b42
  rw [h3, hR.2.2.2.2.2.1, hc_eq hF, hc, hb]
  have dec : nI (F k 0 1 - cO (aTr (F k) 120) (F k 0 1)) < nI (F k 0 1) ↔ ¬ gdK F k := by
    rw [nI_ltI (by omega) (by omega)]
    unfold gdK
    omega
  rw [dec]
  refine ⟨fun g => ⟨Or.inl rfl, h0 (fun w => g w.1)⟩, fun g => ?_⟩
  have g' : gdK F k := Classical.byContradiction g
  refine ⟨fun w z1 e1 => ⟨Or.inr rfl, h1 ⟨g', Or.inl w⟩ z1 e1⟩, fun w => ⟨fun w2 z1 e1 => ⟨Or.inr rfl, h1 ⟨g', Or.inr w2⟩ z1 e1⟩, fun w2 => ⟨Or.inl rfl, h0 (fun w3 => w3.2.elim w w2)⟩⟩⟩
def gF (A : AL) : Nat → AL := fun k => Au A 0 3 k
theorem cg_s (post : Int32 → MX → Prop) (n : Nat) : pX6_cheapestGuards_L19 0 post (n + 1) = pX6_cheapestGuards_l19 0 (pX6_cheapestGuards_L19 0 post n) post := rfl
theorem gu_s (post : Int32 → MX → Prop) (n : Nat) : pX8_guards_L30 post (n + 1) = pX8_guards_l30 (pX8_guards_L30 post n) post := rfl
set_option maxHeartbeats 2000000 in
theorem sX_guards {z : MX} {A : AL} (hL : LX 0 z A) (hA : AOK A) (post : Int32 → MX → Prop) (h : ∀ z1, NX z z1 → z1.1 31 2 = chC (gF A) (2 ^ A 0 0) → post (chB (gF A) (2 ^ A 0 0)) z1) : pX6_cheapestGuards 0 z post := by
  have hB := hA.2.1
  have hP := pow_le8 _ hB
  unfold pX6_cheapestGuards
  refine sX_copy (by decide) hL hA.2.2.2.1 hA.2.2.1 _ (fun z1 f1 q1 z2 e2 => ?_)
  have key : ∀ n k z2 g, k + n = 2 ^ A 0 0 → NX z z2 → LX 1 z2 (Au A 0 3 g) → z2.1 31 2 = chC (gF A) k → pX6_cheapestGuards_L19 0 post (n + 1) z2 (chB (gF A) k) (nI k) := by
    intro n
    induction n with
    | zero =>
      intro k z2 g hk n2 q2 c2
      rw [cg_s]
      unfold pX6_cheapestGuards_l19
      rw [(hL.N n2 (Or.inl rfl)).1, shlN (by omega)]
      have ek : k = 2 ^ A 0 0 := by omega
      rw [ek] at c2 ⊢
      exact ⟨fun _ => h z2 n2 c2, fun c => absurd (nI_le (Nat.le_refl _) (by omega)) c⟩
    | succ n ih =>
      intro k z2 g hk n2 q2 c2
      rw [cg_s]
      unfold pX6_cheapestGuards_l19
      rw [(hL.N n2 (Or.inl rfl)).1, shlN (by omega)]
      refine ⟨fun c => absurd c (nI_ge (by omega) (by omega)), fun _ z3 e3 => ?_⟩
      have q3 : LX 1 z3 (Au A 0 3 k) := by
        rw [e3]
        have := q2.g k
        rw [Au_Au] at this
        exact this
      have n3 : NX z z3 := by rw [e3]; exact n2.mw _ _ (by omega)
      have hR : ROK (gF A k) := (hA.g (g := k) (by omega)).R
      refine sX_play (by decide) q3 hR _ (fun z4 f4 r4 _ cc => ?_)
      have n4 := n3.tr (NX.of f4 (by omega))
      have q4 := q3.fr f4 (by omega)
      have c4 : z4.1 31 2 = chC (gF A) k := by rw [f4.1 31 (by omega), e3, mw_n _ _ _ (by decide)]; exact c2
      refine sX_cheap (F := gF A) (k := k) hR q4.2.2.2.1 r4 cc c4 _ (fun w z5 e5 => ⟨fun q => absurd q (by decide), fun _ x hx => ?_⟩) (fun w => ⟨fun _ x hx => ?_, fun q => absurd rfl q⟩)
      · rw [hx, nI_1, ← (ch_y w).2]
        refine ih (k + 1) z5 k (by omega) (by rw [e5]; exact n4.mw _ _ (by omega)) ?_ (by rw [e5, mw_s, (ch_y w).1])
        have f5 : fr 31 31 z4 z5 := by rw [e5]; exact (fr.rf 31 31 z4).mw _ _ (by omega) (by omega)
        exact q4.fr f5 (by omega)
      · rw [hx, nI_1, ← (ch_n w).2]
        exact ih (k + 1) z4 k (by omega) n4 q4 (by rw [c4, (ch_n w).1])
  exact ⟨2 ^ A 0 0 + 1, key (2 ^ A 0 0) 0 z2 (A 0 3) (by omega) (by rw [e2]; exact (NX.of f1 (by omega)).mw _ _ (by omega)) (by
    rw [Au_self]
    have f2 : fr 31 31 z1 z2 := by rw [e2]; exact (fr.rf 31 31 z1).mw _ _ (by omega) (by omega)
    exact q1.fr f2 (by omega)) (by rw [e2, mw_s]; rfl)⟩
/-- the reference's least cost so far -/
def lst (c : Int32) : Int32 := if c = -4 then 1000000 else c
theorem lst_lt {F : Nat → AL} {N k : Nat} (hF : ∀ k, k < N → ROK (F k)) (hk : k < N) : lst (chC F k) ≤ csK F k ↔ ¬ (chC F k = -4 ∨ csK F k < chC F k) := by
  obtain ⟨c, c1, c2⟩ := cost_b (hF k hk)
  have c2' : csK F k = nI c := c2
  unfold lst
  rcases ch_ok hF k (by omega) with ⟨q, _⟩ | ⟨d, j, d1, d2, d3, d4⟩
  · rw [if_pos q, c2']
    constructor
    · intro w
      exact absurd w (nI_ge (a := c) (b := 1000000) (by omega) (by decide))
    · intro w
      exact absurd (Or.inl q) w
  · have n4 : chC F k ≠ -4 := by rw [d3]; exact nI_neg (by omega) _ (by decide)
    rw [if_neg n4]
    constructor
    · intro w w2
      exact w2.elim n4 (fun w3 => Int32.lt_irrefl (fa_trans w3 w))
    · intro w
      exact Int32.not_lt.mp (fun w3 => w (Or.inr w3))
set_option maxHeartbeats 2000000 in
theorem q_guards {zx zm : MX} (h : Rel zx zm) (x : Int32) : pX7_guards zx x (fun r zx1 => pX8_guards zm x (fun r2 zm1 => r = r2 ∧ Rel zx1 zm1)) := by
  have h0 := h
  obtain ⟨A, a, b, c, d, e, f, g, i, j, k⟩ := h
  have hB := a.2.1
  have hP := pow_le8 _ hB
  have hF : ∀ k, k < 2 ^ A 0 0 → ROK (gF A k) := fun k hk => (a.g (g := k) (by omega)).R
  unfold pX7_guards pX8_guards
  rcases ix x (n := 2) (by decide) with hx | ⟨y, hy, rfl⟩
  · exact c01N hx ⟨fun q => absurd rfl q, fun _ => cInN zm 1 (by decide) (by decide) hx ⟨fun q => absurd rfl q, fun _ => ⟨rfl, h0⟩⟩⟩
  · refine c01Y hy ⟨fun _ => sX_guards b a _ (fun z1 n1 b1 => ?_), fun q => absurd q (by decide)⟩
    have hb := ch_ok hF _ (Nat.le_refl _)
    have ref : ∀ v : Int32, v = (if y = 0 then chC (gF A) (2 ^ A 0 0) else chB (gF A) (2 ^ A 0 0)) → pX8_in zm (Int32.toInt64 (nI y)) (0 : Int64) (1 : Int64) (fun (r4 : Int32) (z4 : MX) => ((¬ r4 = 0 → vp_in (8 : Int32) 125 ∧ ∀ x2_19 : Int32, x2_19 = z4.1 1 (Int32.toNatClampNeg (8 : Int32)) → ∃ n, pX8_guards_L30 (fun r2 zm1 => v = r2 ∧ Rel z1 zm1) n z4 (nI y) x2_19 (-4 : Int32) (1000000 : Int32) (0 : Int32)) ∧ (r4 = 0 → v = (-1 : Int32) ∧ Rel z1 z4))) := by
      intro v hv
      refine cInY zm 1 (by decide) (by decide) (by omega) ⟨fun _ => ⟨vp_in_nI (n := 8) (by omega) (by decide), fun had hh => ?_⟩, fun q => absurd q (by decide)⟩
      rw [show Int32.toNatClampNeg (8 : Int32) = 8 from rfl] at hh
      have key : ∀ n k y2 g, k + n = 2 ^ A 0 0 → NMx (fun k => k = 8) zm y2 → LM y2 (Au A 0 3 g) → pX8_guards_L30 (fun r2 zm1 => v = r2 ∧ Rel z1 zm1) (n + 1) y2 (nI y) had (chB (gF A) k) (lst (chC (gF A) k)) (nI k) := by
        intro n
        induction n with
        | zero =>
          intro k y2 g hk n2 q2
          rw [gu_s]
          unfold pX8_guards_l30
          rw [q2.1, show Au A 0 3 g 0 0 = A 0 0 from rfl, shlN (by omega)]
          have ek : k = 2 ^ A 0 0 := by omega
          rw [ek, show Int32.toNatClampNeg (8 : Int32) = 8 from rfl]
          refine ⟨fun _ => ⟨vp_in_nI (n := 8) (by omega) (by decide), fun y3 e3 => ?_⟩, fun c => absurd (nI_le (Nat.le_refl _) (by omega)) c⟩
          have n3 : NM zm y3 := by rw [e3, hh]; exact n2.back
          have hr := h0.N n1 n3
          unfold pX8_guards_b134
          rcases hb with ⟨b1, b2⟩ | ⟨cc, jj, w1, w2, w3, w4⟩
          · rw [b1, b2] at hv
            refine ⟨fun _ => ⟨?_, hr⟩, fun q => absurd b2 q⟩
            rw [hv, b2]
            by_cases q : y = 0
            · rw [if_pos q]
            · rw [if_neg q]
          · have nb : chB (gF A) (2 ^ A 0 0) ≠ -4 := by rw [w4]; exact nI_neg (by omega) _ (by decide)
            have nc : chC (gF A) (2 ^ A 0 0) ≠ -4 := by rw [w3]; exact nI_neg (by omega) _ (by decide)
            refine ⟨fun q => absurd q nb, fun _ => ⟨fun q => ⟨?_, hr⟩, fun q => ⟨?_, hr⟩⟩⟩
            · have y0 : y = 0 := by
                have : y ≠ 1 := fun w => q (by rw [w]; rfl)
                omega
              rw [hv, if_pos y0]
              unfold lst
              rw [if_neg nc]
            · have y1 : y = 1 := (nI_eq (b := 1) (by omega) (by decide)).mp q
              rw [hv, if_neg (by omega)]
        | succ n ih =>
          intro k y2 g hk n2 q2
          rw [gu_s]
          unfold pX8_guards_l30
          rw [q2.1, show Au A 0 3 g 0 0 = A 0 0 from rfl, shlN (by omega)]
          refine ⟨fun c => absurd c (nI_ge (by omega) (by omega)), fun _ => ⟨vp_in_nI (n := 8) (by omega) (by decide), fun y3 e3 => ?_⟩⟩
          rw [show Int32.toNatClampNeg (8 : Int32) = 8 from rfl] at e3
          have q3 : LM y3 (gF A k) := by
            rw [e3]
            have := q2.g k
            rw [Au_Au] at this
            exact this
          have n3 : NMx (fun k => k = 8) zm y3 := by rw [e3]; exact n2.put _ (Or.inl rfl)
          have hR := hF k (by omega)
          refine sM_run q3 hR _ (fun y4 f4 r4 _ => ?_)
          have n4 := n3.run f4
          have q4 := q3.fr f4
          have hco := cO_le (aTr (gF A k) 120) (gF A k 0 1)
          have hT := hR.2.2.1
          refine sM_homeMany q4 hR r4 _ ?_
          rw [q4.2.1]
          have dec : nI (gF A k 0 1 - cO (aTr (gF A k) 120) (gF A k 0 1)) = nI (gF A k 0 1) ↔ gdK (gF A) k := by
            rw [nI_eq (by omega) (by omega)]
            unfold gdK
            omega
          rw [dec]
          have no : ¬ (gdK (gF A) k ∧ (chC (gF A) k = -4 ∨ csK (gF A) k < chC (gF A) k)) → pX8_guards_b78 (pX8_guards_L30 (fun r2 zm1 => v = r2 ∧ Rel z1 zm1) (n + 1)) (fun r2 zm1 => v = r2 ∧ Rel z1 zm1) y4 (nI y) had (chB (gF A) k) (lst (chC (gF A) k)) (nI k) := by
            intro w
            unfold pX8_guards_b78 pX8_guards_b79 pX8_guards_b92 pX8_guards_b107
            refine ⟨fun _ => ⟨fun _ x hx => ?_, fun q => absurd rfl q⟩, fun q => absurd rfl q⟩
            rw [hx, nI_1, ← (ch_n w).1, ← (ch_n w).2]
            exact ih (k + 1) y4 k (by omega) n4 q4
          refine ⟨fun w => no (fun w2 => w w2.1), fun w => sM_cost q4 hR r4 _ ?_⟩
          show (lst (chC (gF A) k) ≤ csK (gF A) k → _) ∧ (¬ lst (chC (gF A) k) ≤ csK (gF A) k → _)
          rw [lst_lt hF (by omega)]
          refine ⟨fun w2 => no (fun w3 => w2 w3.2), fun w2 => ?_⟩
          have w3 := Classical.byContradiction w2
          unfold pX8_guards_b79 pX8_guards_b92 pX8_guards_b107
          refine ⟨fun q => absurd q (by decide), fun _ => ⟨fun q => absurd q (by decide), fun _ => sM_cost q4 hR r4 _ (fun x hx => ?_)⟩⟩
          rw [hx, nI_1]
          have ihk := ih (k + 1) y4 k (by omega) n4 q4
          rw [(ch_y ⟨w, w3⟩).1, (ch_y ⟨w, w3⟩).2] at ihk
          have el : lst (csK (gF A) k) = csK (gF A) k := by
            unfold lst
            obtain ⟨cc, c1, c2⟩ := cost_b hR
            rw [if_neg (by show csK (gF A) k ≠ -4; rw [show csK (gF A) k = nI cc from c2]; exact nI_neg (by omega) _ (by decide))]
          rw [el] at ihk
          exact ihk
      exact ⟨2 ^ A 0 0 + 1, key (2 ^ A 0 0) 0 zm (A 0 3) (by omega) (NMx.rf _ zm) (by rw [Au_self]; exact c)⟩
    refine ⟨fun w => ref _ ?_, fun w => ref _ ?_⟩
    · rw [if_neg (fun q => w (by rw [q]; rfl))]
    · rw [if_pos ((nI_eq (b := 0) (by omega) (by decide)).mp w), b1]
