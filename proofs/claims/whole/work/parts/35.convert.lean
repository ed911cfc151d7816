/-! convert -/
theorem s_put {i : Nat} {z : MX} {A : AL} (hL : LX i z A) {t w : Nat} (ht : t < 4) (hw : w < 4) (v : Nat) (post : MX → Prop) (h : ∀ z1, fr (4 * i + 3) (4 * i + 3) z z1 → LX i z1 (Au A 3 (4 * t + w) v) → post z1) : pX0_putFact i z (nI t) (nI w) (nI v) post := by
  unfold pX0_putFact
  have e1 : (4 : Int32) * nI t + nI w = nI (4 * t + w) := by rw [show (4 : Int32) = nI 4 from rfl, pk_mul, nI_add]
  rw [e1, nI_clamp (by omega)]
  refine ⟨vp_in_nI (by omega) (by decide), fun z1 g1 => h z1 ?_ ?_⟩
  · rw [g1]; exact (fr.rf _ _ z).mw _ _ (by omega) (by omega)
  · rw [g1]; exact hL.f _ _
def cvF (A : AL) (s : Nat) : AL := Au A 3 (4 * (s / 4)) (s % 4)
theorem cvF_e (A : AL) (t : Nat) {f : Nat} (hf : f < 4) : cvF A (4 * t + f) = Au A 3 (4 * t) f := by
  unfold cvF
  rw [show (4 * t + f) / 4 = t by omega, show (4 * t + f) % 4 = f by omega]
def cvC (A : AL) : Nat → Int32
  | 0 => aCost A (aTr A 120) (A 0 1)
  | s + 1 => if csK (cvF A) s < cvC A s then csK (cvF A) s else cvC A s
def cvB (A : AL) : Nat → Int32
  | 0 => -4
  | s + 1 => if csK (cvF A) s < cvC A s then nI (10 * (s / 4) + s % 4) else cvB A s
theorem cv_y {A : AL} {s : Nat} (h : csK (cvF A) s < cvC A s) : cvC A (s + 1) = csK (cvF A) s ∧ cvB A (s + 1) = nI (10 * (s / 4) + s % 4) := ⟨if_pos h, if_pos h⟩
theorem cv_n {A : AL} {s : Nat} (h : ¬ csK (cvF A) s < cvC A s) : cvC A (s + 1) = cvC A s ∧ cvB A (s + 1) = cvB A s := ⟨if_neg h, if_neg h⟩
theorem cv_ok {A : AL} : ∀ s, s ≤ 16 → cvB A s = -4 ∨ ∃ j, j < 100 ∧ cvB A s = nI j := by
  intro s
  induction s with
  | zero => intro _; exact Or.inl rfl
  | succ s ih =>
    intro hs
    by_cases h : csK (cvF A) s < cvC A s
    · exact Or.inr ⟨10 * (s / 4) + s % 4, by omega, (cv_y h).2⟩
    · rw [(cv_n h).2]; exact ih (by omega)
theorem cv_e (t : Nat) {f : Nat} (hf : f < 4) : (10 : Int32) * nI t + nI f = nI (10 * ((4 * t + f) / 4) + (4 * t + f) % 4) := by
  rw [show (4 * t + f) / 4 = t by omega, show (4 * t + f) % 4 = f by omega, show (10 : Int32) = nI 10 from rfl, pk_mul, nI_add]
theorem cv_s33 (post : Int32 → MX → Prop) (n : Nat) : pX6_cheapestConvert_L33 0 post (n + 1) = pX6_cheapestConvert_l33 0 (pX6_cheapestConvert_L33 0 post n) post := rfl
theorem cv_s45 (r : MX → Int32 → Int32 → Int32 → Prop) (post : Int32 → MX → Prop) (n : Nat) : pX6_cheapestConvert_L45 0 r post (n + 1) = pX6_cheapestConvert_l45 0 r (pX6_cheapestConvert_L45 0 r post n) post := rfl
theorem cv_s27 (post : Int32 → MX → Prop) (n : Nat) : pX8_convert_L27 post (n + 1) = pX8_convert_l27 (pX8_convert_L27 post n) post := rfl
theorem cv_s51 (r : MX → Int32 → Int32 → Int32 → Int32 → Prop) (post : Int32 → MX → Prop) (n : Nat) : pX8_convert_L51 r post (n + 1) = pX8_convert_l51 r (pX8_convert_L51 r post n) post := rfl
theorem lt_iff_nle (a b : Int32) : b ≤ a ↔ ¬ a < b := Int32.not_lt.symm
set_option maxHeartbeats 2000000 in
theorem sX_convert {z : MX} {A : AL} (hL : LX 0 z A) (hA : AOK A) (post : Int32 → MX → Prop) (h : ∀ z1, NX z z1 → z1.1 31 2 = (if cvB A (4 * A 0 1) = -4 then -4 else cvC A (4 * A 0 1)) → post (cvB A (4 * A 0 1)) z1) : pX6_cheapestConvert 0 z post := by
  have hT := hA.2.2.1
  unfold pX6_cheapestConvert
  refine sX_copy (by decide) hL hA.2.2.2.1 hT _ (fun z1 f1 q1 => sX_play (by decide) q1 hA.R _ (fun z2 f2 r2 _ c2 x hx => ?_))
  have inn : ∀ t, t < A 0 1 → ∀ rec33 : MX → Int32 → Int32 → Int32 → Prop, (∀ z3, NX z z3 → LX 1 z3 A → rec33 z3 (cvC A (4 * (t + 1))) (cvB A (4 * (t + 1))) (nI (t + 1))) → ∀ n f z3 g, f + n = 4 → NX z z3 → LX 1 z3 (Au A 3 (4 * t) g) → pX6_cheapestConvert_L45 0 rec33 post (n + 1) z3 (cvC A (4 * t + f)) (cvB A (4 * t + f)) (nI t) (nI f) := by
    intro t ht rec33 hr n
    induction n with
    | zero =>
      intro f z3 g hf n3 q3
      rw [cv_s45]
      unfold pX6_cheapestConvert_l45
      have ef : f = 4 := by omega
      rw [ef]
      refine ⟨fun _ => s_fact (hL.N n3 (Or.inl rfl)) hT ht (w := 0) (by decide) _ (s_put q3 (w := 0) (by omega) (by decide) _ _ (fun z4 f4 q4 x hx => ?_)), fun q => absurd (by decide) q⟩
      rw [Nat.add_zero, Au_Au, Au_self] at q4
      rw [hx, nI_1]
      exact hr z4 (n3.tr (NX.of f4 (by omega))) q4
    | succ n ih =>
      intro f z3 g hf n3 q3
      rw [cv_s45]
      unfold pX6_cheapestConvert_l45
      refine ⟨fun q => absurd q (nI_ge (a := f) (b := 4) (by omega) (by decide)), fun _ => s_put q3 (w := 0) (by omega) (by decide) _ _ (fun z4 f4 q4 => ?_)⟩
      rw [Nat.add_zero, Au_Au, ← cvF_e A t (by omega)] at q4
      have hR : ROK (cvF A (4 * t + f)) := by
        rw [cvF_e A t (by omega)]
        exact (hA.f (t := t) (w := 0) (by decide) (by show f < 4; omega)).R
      refine sX_play (by decide) q4 hR _ (fun z5 f5 r5 _ c5 => ?_)
      have n5 := (n3.tr (NX.of f4 (by omega))).tr (NX.of f5 (by omega))
      have q5 := q4.fr f5 (by omega)
      rw [cvF_e A t (by omega)] at q5
      have c5' : z5.1 26 8 = csK (cvF A) (4 * t + f) := c5
      rw [c5', lt_iff_nle]
      unfold pX6_cheapestConvert_b102
      refine ⟨fun w x hx => ?_, fun w u hu v hv x hx => ?_⟩
      · rw [hx, nI_1, ← (cv_n w).1, ← (cv_n w).2]
        exact ih (f + 1) z5 f (by omega) n5 q5
      · have w := Classical.byContradiction w
        rw [hx, nI_1, hu, hv, cv_e t (by omega), ← (cv_y w).1, ← (cv_y w).2]
        exact ih (f + 1) z5 f (by omega) n5 q5
  have key : ∀ n t z3, t + n = A 0 1 → NX z z3 → LX 1 z3 A → pX6_cheapestConvert_L33 0 post (n + 1) z3 (cvC A (4 * t)) (cvB A (4 * t)) (nI t) := by
    intro n
    induction n with
    | zero =>
      intro t z3 ht n3 q3
      rw [cv_s33]
      unfold pX6_cheapestConvert_l33
      have et : t = A 0 1 := by omega
      rw [(hL.N n3 (Or.inl rfl)).2.2.2.1, et]
      unfold pX6_cheapestConvert_b144
      refine ⟨fun _ => ⟨fun w z4 e4 => ?_, fun w z4 e4 => ?_⟩, fun c => absurd (nI_le (Nat.le_refl _) (by omega)) c⟩
      · rw [if_neg w] at h
        exact h z4 (by rw [e4]; exact n3.mw _ _ (by omega)) (by rw [e4, mw_s])
      · rw [if_pos w] at h
        exact h z4 (by rw [e4]; exact n3.mw _ _ (by omega)) (by rw [e4, mw_s])
    | succ n ih =>
      intro t z3 ht n3 q3
      rw [cv_s33]
      unfold pX6_cheapestConvert_l33
      rw [(hL.N n3 (Or.inl rfl)).2.2.2.1]
      refine ⟨fun c => absurd c (nI_ge (by omega) (by omega)), fun _ => ⟨5, ?_⟩⟩
      exact inn t (by omega) _ (fun z4 n4 q4 => ih (t + 1) z4 (by omega) n4 q4) 4 0 z3 (A 3 (4 * t)) (by omega) n3 (by rw [Au_self]; exact q3)
  have k0 := key (A 0 1) 0 z2 (by omega) ((NX.of f1 (by omega)).tr (NX.of f2 (by omega))) (q1.fr f2 (by omega))
  refine ⟨A 0 1 + 1, ?_⟩
  rw [hx, c2]
  exact k0
set_option maxHeartbeats 2000000 in
theorem q_convert {zx zm : MX} (h : Rel zx zm) (x : Int32) : pX7_convert zx x (fun r zx1 => pX8_convert zm x (fun r2 zm1 => r = r2 ∧ Rel zx1 zm1)) := by
  have h0 := h
  obtain ⟨A, a, b, c, d, e, f, g, i, j, k⟩ := h
  have hT := a.2.2.1
  unfold pX7_convert pX8_convert
  rcases ix x (n := 2) (by decide) with hx | ⟨y, hy, rfl⟩
  · exact c01N hx ⟨fun q => absurd rfl q, fun _ => cInN zm 1 (by decide) (by decide) hx ⟨fun q => absurd rfl q, fun _ => ⟨rfl, h0⟩⟩⟩
  · refine c01Y hy ⟨fun _ => sX_convert b a _ (fun z1 n1 b1 => ?_), fun q => absurd q (by decide)⟩
    have ref : ∀ v : Int32, v = (if y = 0 then cvB A (4 * A 0 1) else if cvB A (4 * A 0 1) = -4 then -4 else cvC A (4 * A 0 1)) → pX8_in zm (Int32.toInt64 (nI y)) (0 : Int64) (1 : Int64) (fun (r4 : Int32) (z4 : MX) => ((¬ r4 = 0 → pX8_run z4 (fun (z13 : MX) => pX8_cost z13 (fun (r17 : Int32) (z17 : MX) => ∃ n, pX8_convert_L27 (fun r2 zm1 => v = r2 ∧ Rel z1 zm1) n z17 (nI y) r17 (-4 : Int32) (0 : Int32)))) ∧ (r4 = 0 → v = (-1 : Int32) ∧ Rel z1 z4))) := by
      intro v hv
      refine cInY zm 1 (by decide) (by decide) (by omega) ⟨fun _ => sM_run c a.R _ (fun y1 f1 r1 _ => sM_cost (c.fr f1) a.R r1 _ ?_), fun q => absurd q (by decide)⟩
      have inn : ∀ t, t < A 0 1 → ∀ rec27 : MX → Int32 → Int32 → Int32 → Int32 → Prop, (∀ y3, NM zm y3 → rec27 y3 (nI y) (cvC A (4 * (t + 1))) (cvB A (4 * (t + 1))) (nI (t + 1))) → ∀ n f y3 g, f + n = 4 → NMx (fun k => k = 9 + t) zm y3 → LM y3 (Au A 3 (4 * t) g) → pX8_convert_L51 rec27 (fun r2 zm1 => v = r2 ∧ Rel z1 zm1) (n + 1) y3 (nI y) (cvC A (4 * t + f)) (cvB A (4 * t + f)) (nI t) (zm.1 1 (9 + t)) (nI f) := by
        intro t ht rec27 hr n
        have ei : (9 : Int32) + nI t = nI (9 + t) := by rw [show (9 : Int32) = nI 9 from rfl, nI_add]
        induction n with
        | zero =>
          intro f y3 g hf n3 q3
          rw [cv_s51]
          unfold pX8_convert_l51
          have ef : f = 4 := by omega
          rw [ef, ei, nI_clamp (by omega)]
          refine ⟨fun _ => ⟨vp_in_nI (by omega) (by decide), fun y4 e4 x hx => ?_⟩, fun q => absurd (by decide) q⟩
          rw [hx, nI_1]
          exact hr y4 (by rw [e4]; exact n3.back)
        | succ n ih =>
          intro f y3 g hf n3 q3
          rw [cv_s51]
          unfold pX8_convert_l51
          rw [ei, nI_clamp (by omega)]
          refine ⟨fun q => absurd q (nI_ge (a := f) (b := 4) (by omega) (by decide)), fun _ => ⟨vp_in_nI (by omega) (by decide), fun y4 e4 => ?_⟩⟩
          have q4 : LM y4 (cvF A (4 * t + f)) := by
            have w := q3.f (t := t) (w := 0) f hT ht (by decide)
            rw [Nat.add_zero (4 * t), Au_Au, ← cvF_e A t (by omega)] at w
            rw [e4]; exact w
          have n4 : NMx (fun k => k = 9 + t) zm y4 := by rw [e4]; exact n3.put _ (Or.inl rfl)
          have hR : ROK (cvF A (4 * t + f)) := by
            rw [cvF_e A t (by omega)]
            exact (a.f (t := t) (w := 0) (by decide) (by show f < 4; omega)).R
          refine sM_run q4 hR _ (fun y5 f5 r5 _ => ?_)
          have n5 := n4.run f5
          have q5 := q4.fr f5
          have q5' : LM y5 (Au A 3 (4 * t) f) := by rw [← cvF_e A t (by omega)]; exact q5
          refine sM_cost q5 hR r5 _ ?_
          show (cvC A (4 * t + f) ≤ csK (cvF A) (4 * t + f) → _) ∧ (¬ cvC A (4 * t + f) ≤ csK (cvF A) (4 * t + f) → _)
          rw [lt_iff_nle]
          unfold pX8_convert_b93
          refine ⟨fun w => sM_cost q5 hR r5 _ ?_, fun w => sM_cost q5 hR r5 _ ?_⟩
          · show (cvC A (4 * t + f) ≤ csK (cvF A) (4 * t + f) → _) ∧ (¬ cvC A (4 * t + f) ≤ csK (cvF A) (4 * t + f) → _)
            rw [lt_iff_nle]
            refine ⟨fun _ => ?_, fun q => absurd w q⟩
            unfold pX8_convert_b110
            intro x hx
            rw [hx, nI_1, ← (cv_n w).1, ← (cv_n w).2]
            exact ih (f + 1) y5 f (by omega) n5 q5'
          · show (cvC A (4 * t + f) ≤ csK (cvF A) (4 * t + f) → _) ∧ (¬ cvC A (4 * t + f) ≤ csK (cvF A) (4 * t + f) → _)
            rw [lt_iff_nle]
            refine ⟨fun q => absurd q w, fun _ => sM_cost q5 hR r5 _ ?_⟩
            have w := Classical.byContradiction w
            show pX8_convert_b110 _ _ _ y5 (nI y) _ (nI t) _ (nI f) (csK (cvF A) (4 * t + f))
            unfold pX8_convert_b110
            intro x hx
            rw [hx, nI_1, cv_e t (by omega), ← (cv_y w).1, ← (cv_y w).2]
            exact ih (f + 1) y5 f (by omega) n5 q5'
      have key : ∀ n t y3, t + n = A 0 1 → NM zm y3 → pX8_convert_L27 (fun r2 zm1 => v = r2 ∧ Rel z1 zm1) (n + 1) y3 (nI y) (cvC A (4 * t)) (cvB A (4 * t)) (nI t) := by
        intro n
        induction n with
        | zero =>
          intro t y3 ht n3
          rw [cv_s27]
          unfold pX8_convert_l27
          have et : t = A 0 1 := by omega
          rw [(c.N n3 hT).2.1, et]
          unfold pX8_convert_b145
          have hr := h0.N n1 n3
          refine ⟨fun _ => ⟨fun w => ⟨?_, hr⟩, fun w => ⟨fun w2 => ⟨?_, hr⟩, fun w2 => ⟨?_, hr⟩⟩⟩, fun c => absurd (nI_le (Nat.le_refl _) (by omega)) c⟩
          · rw [hv, w]
            by_cases q : y = 0
            · rw [if_pos q]
            · rw [if_neg q, if_pos rfl]
          · rw [hv, if_neg (fun q => w2 (by rw [q]; rfl)), if_neg w]
          · rw [hv, if_pos ((nI_eq (b := 0) (by omega) (by decide)).mp w2)]
        | succ n ih =>
          intro t y3 ht n3
          rw [cv_s27]
          unfold pX8_convert_l27
          have ei : (9 : Int32) + nI t = nI (9 + t) := by rw [show (9 : Int32) = nI 9 from rfl, nI_add]
          rw [(c.N n3 hT).2.1, ei, nI_clamp (by omega)]
          refine ⟨fun c => absurd c (nI_ge (by omega) (by omega)), fun _ => ⟨vp_in_nI (by omega) (by decide), fun x hx => ⟨5, ?_⟩⟩⟩
          rw [hx, n3.2.2 (9 + t) (by omega)]
          exact inn t (by omega) _ (fun y4 n4 => ih (t + 1) y4 (by omega) n4) 4 0 y3 (A 3 (4 * t)) (by omega) n3.x (by rw [Au_self]; exact c.N n3 hT)
      exact ⟨A 0 1 + 1, key (A 0 1) 0 y1 (by omega) (NM.of f1)⟩
    refine ⟨fun w => ref _ ?_, fun w => ref _ ?_⟩
    · rw [if_neg (fun q => w (by rw [q]; rfl)), b1]
    · rw [if_pos ((nI_eq (b := 0) (by omega) (by decide)).mp w)]
