/-! fits -/
theorem ft_s13 (post : Int32 → MX → Prop) (n : Nat) : pX4_fittingFaiths_L13 0 post (n + 1) = pX4_fittingFaiths_l13 0 (pX4_fittingFaiths_L13 0 post n) post := rfl
theorem ft_s59 (r : MX → Int32 → Int32 → Int32 → Prop) (post : Int32 → MX → Prop) (n : Nat) : pX4_fittingFaiths_L59 0 r post (n + 1) = pX4_fittingFaiths_l59 0 r (pX4_fittingFaiths_L59 0 r post n) post := rfl
theorem rs_s2 (post : Int32 → MX → Prop) (n : Nat) : pX4_runIsAsSeen_L2 post (n + 1) = pX4_runIsAsSeen_l2 (pX4_runIsAsSeen_L2 post n) post := rfl
theorem fo_s15 (post : Int32 → MX → Prop) (n : Nat) : pX8_faithsOf_L15 post (n + 1) = pX8_faithsOf_l15 (pX8_faithsOf_L15 post n) post := rfl
theorem fo_s42 (r : MX → Int32 → Int32 → Int32 → Int32 → Prop) (post : Int32 → MX → Prop) (n : Nat) : pX8_faithsOf_L42 r post (n + 1) = pX8_faithsOf_l42 r (pX8_faithsOf_L42 r post n) post := rfl
theorem fo_s119 (r : MX → Int32 → Int32 → Int32 → Int32 → Prop) (post : Int32 → MX → Prop) (n : Nat) : pX8_faithsOf_L119 r post (n + 1) = pX8_faithsOf_l119 r (pX8_faithsOf_L119 r post n) post := rfl
theorem TX.e {A : AL} {z z1 : MX} (h : TX A z) (h1 : z1.1 26 = z.1 26) (h2 : z1.1 30 = z.1 30) : TX A z1 := by
  unfold TX
  rw [h1, h2]
  exact h
/-- where a train of faith f is behind minute m -/
def trk (A : AL) (t f m : Nat) : Int32 := aTr (Au A 3 (4 * t) f) (m + 1) 0 t
/-- what was seen, sightings 0 to n - 1 -/
def sawP (S : Nat → Int32) (A : AL) (t f n : Nat) : Prop := ∀ k, k < n → S (3 * k) = nI t → trk A t f (S (3 * k + 1)).toNatClampNeg = S (3 * k + 2)
noncomputable def fitF (S : Nat → Int32) (A : AL) (t n f : Nat) : Nat := @ite _ (sawP S A t f n) (Classical.propDecidable _) 1 0
theorem fit_y {S : Nat → Int32} {A : AL} {t n f : Nat} (h : sawP S A t f n) : fitF S A t n f = 1 := by
  unfold fitF
  rw [if_pos h]
theorem fit_n {S : Nat → Int32} {A : AL} {t n f : Nat} (h : ¬ sawP S A t f n) : fitF S A t n f = 0 := by
  unfold fitF
  rw [if_neg h]
def SX (z : MX) (S : Nat → Int32) (n : Nat) : Prop := n ≤ 6 ∧ z.1 33 6 = nI n ∧ (∀ k, k < n → z.1 34 k = S (3 * k) ∧ z.1 35 k = S (3 * k + 1) ∧ z.1 36 k = S (3 * k + 2) ∧ ∃ m, m < 120 ∧ S (3 * k + 1) = nI m)
theorem SX.N {z z1 : MX} {S : Nat → Int32} {n : Nat} (h : SX z S n) (hN : NX z z1) : SX z1 S n := by
  unfold SX
  rw [hN.2.2, hN.1 34 (by omega), hN.1 35 (by omega), hN.1 36 (by omega)]
  exact h
theorem sX_saw {z : MX} {A : AL} {S : Nat → Int32} {n t f : Nat} (hT : A 0 1 ≤ 4) (hS : SX z S n) (h : TX (Au A 3 (4 * t) f) z) (ht : t < A 0 1) (post : Int32 → MX → Prop) (h1 : sawP S A t f n → post 1 z) (h0 : ¬ sawP S A t f n → post 0 z) : pX4_runIsAsSeen z (nI t) post := by
  obtain ⟨s1, s2, s3⟩ := hS
  have key : ∀ q k, k + q = n → sawP S A t f k → pX4_runIsAsSeen_L2 post (q + 1) z (nI t) (nI k) := by
    intro q
    induction q with
    | zero =>
      intro k hk hp
      rw [rs_s2]
      unfold pX4_runIsAsSeen_l2
      have ek : k = n := by omega
      rw [s2, ek]
      rw [ek] at hp
      exact ⟨fun _ => ⟨Or.inr rfl, h1 hp⟩, fun c => absurd (nI_le (Nat.le_refl _) (by omega)) c⟩
    | succ q ih =>
      intro k hk hp
      rw [rs_s2]
      unfold pX4_runIsAsSeen_l2
      obtain ⟨k1, k2, k3, m, m1, m2⟩ := s3 k (by omega)
      rw [s2, nI_clamp (by omega), k1, k2, m2]
      have nx : (S (3 * k) = nI t → trk A t f (S (3 * k + 1)).toNatClampNeg = S (3 * k + 2)) → pX4_runIsAsSeen_b45 (pX4_runIsAsSeen_L2 post (q + 1)) post z (nI t) (nI k) := by
        intro hh x hx
        rw [hx, nI_1]
        refine ih (k + 1) (by omega) (fun j hj => ?_)
        by_cases e : j = k
        · rw [e]; exact hh
        · exact hp j (by omega)
      refine ⟨fun c => absurd c (nI_ge (by omega) (by omega)), fun _ => ⟨vp_in_nI (by omega) (by decide), fun c => nx (fun e => absurd e c), fun c => ⟨vp_in_nI (by omega) (by decide), sX_spot (A := Au A 3 (4 * t) f) hT h ht m1 ⟨vp_in_nI (by omega) (by decide), ?_⟩⟩⟩⟩
      rw [k3]
      have em : (S (3 * k + 1)).toNatClampNeg = m := by rw [m2, nI_clamp (by omega)]
      refine ⟨fun d => nx (fun _ => by rw [em]; exact d), fun d => ⟨Or.inl rfl, h0 (fun hh => d ?_)⟩⟩
      have := hh k (by omega) c
      rw [em] at this
      exact this
  exact ⟨n + 1, key n 0 (by omega) (fun k hk => absurd hk (by omega))⟩
set_option maxHeartbeats 4000000 in
theorem sX_fit {z : MX} {A : AL} {S : Nat → Int32} {n t : Nat} (hL : LX 0 z A) (hA : AOK A) (hS : SX z S n) (ht : t < A 0 1) (post : Int32 → MX → Prop) (h : ∀ z1, NX z z1 → (∀ f m, f < 4 → m < 120 → z1.1 37 (f * 120 + m) = trk A t f m) → post (nI (obN (fitF S A t n) 4)) z1) : pX4_fittingFaiths 0 z (nI t) post := by
  have hT := hA.2.2.1
  unfold pX4_fittingFaiths
  refine sX_copy (by decide) hL hA.2.2.2.1 hT _ (fun z1 f1 q1 => ?_)
  have key : ∀ q f z2 g, f + q = 4 → NX z z2 → LX 1 z2 (Au A 3 (4 * t) g) → (∀ f' m, f' < f → m < 120 → z2.1 37 (f' * 120 + m) = trk A t f' m) → pX4_fittingFaiths_L13 0 post (q + 1) z2 (nI t) (nI (obN (fitF S A t n) f)) (nI f) := by
    intro q
    induction q with
    | zero =>
      intro f z2 g hf n2 q2 t2
      rw [ft_s13]
      unfold pX4_fittingFaiths_l13
      have ef : f = 4 := by omega
      rw [ef] at t2 ⊢
      exact ⟨fun _ => h z2 n2 t2, fun c => absurd (by decide) c⟩
    | succ q ih =>
      intro f z2 g hf n2 q2 t2
      rw [ft_s13]
      unfold pX4_fittingFaiths_l13
      refine ⟨fun c => absurd c (nI_ge (a := f) (b := 4) (by omega) (by decide)), fun _ => s_put q2 (w := 0) (by omega) (by decide) _ _ (fun z3 f3 q3 => ?_)⟩
      rw [Nat.add_zero (4 * t), Au_Au] at q3
      have hR : ROK (Au A 3 (4 * t) f) := (hA.f (t := t) (w := 0) (by decide) (by show f < 4; omega)).R
      refine sX_play (by decide) q3 hR _ (fun z4 f4 r4 t4 _ => ?_)
      have n4 := (n2.tr (NX.of f3 (by omega))).tr (NX.of f4 (by omega))
      have q4 := q3.fr f4 (by omega)
      have e37 : z4.1 37 = z2.1 37 := by rw [f4.1 37 (by omega), f3.1 37 (by omega)]
      -- the track
      have inn : ∀ p m z5, m + p = 120 → NX z z5 → LX 1 z5 (Au A 3 (4 * t) f) → TX (Au A 3 (4 * t) f) z5 → (∀ f' m', f' < f → m' < 120 → z5.1 37 (f' * 120 + m') = trk A t f' m') → (∀ m', m' < m → z5.1 37 (f * 120 + m') = trk A t f m') → pX4_fittingFaiths_L59 0 (pX4_fittingFaiths_L13 0 post (q + 1)) post (p + 1) z5 (nI t) (nI (obN (fitF S A t n) (f + 1))) (nI f) (nI m) := by
        intro p
        induction p with
        | zero =>
          intro m z5 hm n5 q5 t5 u1 u2
          rw [ft_s59]
          unfold pX4_fittingFaiths_l59
          have em : m = 120 := by omega
          rw [em] at u2 ⊢
          refine ⟨fun _ x hx => ?_, fun c => absurd (by decide) c⟩
          rw [hx, nI_1]
          refine ih (f + 1) z5 f (by omega) n5 q5 (fun f' m' h1 h2 => ?_)
          by_cases e : f' = f
          · rw [e]; exact u2 m' h2
          · exact u1 f' m' (by omega) h2
        | succ p ihp =>
          intro m z5 hm n5 q5 t5 u1 u2
          rw [ft_s59]
          unfold pX4_fittingFaiths_l59
          have ei : nI f * (120 : Int32) + nI m = nI (f * 120 + m) := by rw [show (120 : Int32) = nI 120 from rfl, pk_mul, nI_add]
          rw [ei, nI_clamp (by omega)]
          refine ⟨fun c => absurd c (nI_ge (a := m) (b := 120) (by omega) (by decide)), fun _ => sX_spot (A := Au A 3 (4 * t) f) hT t5 ht (by omega) ⟨vp_in_nI (by omega) (by decide), fun z6 e6 x hx => ?_⟩⟩
          rw [hx, nI_1]
          have f6 : fr 37 37 z5 z6 := by rw [e6]; exact (fr.rf 37 37 z5).mw _ _ (by omega) (by omega)
          refine ihp (m + 1) z6 (by omega) (n5.tr (NX.of f6 (by omega))) (q5.fr f6 (by omega)) (t5.e (f6.1 26 (by omega)) (f6.1 30 (by omega))) (fun f' m' h1 h2 => ?_) (fun m' h1 => ?_)
          · rw [e6, mw_k _ _ (by omega)]; exact u1 f' m' h1 h2
          · rw [e6, mw_g]
            by_cases e : m' = m
            · rw [if_pos ⟨rfl, by rw [e]⟩, e]; rfl
            · rw [if_neg (by omega)]; exact u2 m' (by omega)
      have st : ∀ v, v = nI (obN (fitF S A t n) (f + 1)) → pX4_fittingFaiths_b56 0 (pX4_fittingFaiths_L13 0 post (q + 1)) post z4 (nI t) v (nI f) := by
        intro v hv
        rw [hv]
        exact ⟨121, inn 120 0 z4 (by omega) n4 q4 t4 (fun f' m' h1 h2 => by rw [e37]; exact t2 f' m' h1 h2) (fun m' hm => absurd hm (by omega))⟩
      refine sX_saw hT (hS.N n4) t4 ht _ (fun w => ⟨fun c => absurd c (by decide), fun _ v hv => st v ?_⟩) (fun w => ⟨fun _ => st _ ?_, fun c => absurd rfl c⟩)
      · rw [hv, shlN (by omega), obN_or (obN_lt _ _), obN_s, fit_y w, if_neg (by decide)]
      · rw [obN_s, fit_n w, if_pos rfl, Nat.add_zero]
  exact ⟨5, key 4 0 z1 (A 3 (4 * t)) (by omega) (NX.of f1 (by omega)) (by rw [Au_self]; exact q1) (fun f' m h1 => absurd h1 (by omega))⟩
theorem NMx.w15 {P : Nat → Prop} {z z1 : MX} (h : NMx P z z1) (k : Nat) (v : Int32) : NMx P z (mw z1 15 k v) := ⟨fun c hc => by rw [mw_n _ _ _ (by omega)]; exact h.1 c hc, fun q hq => by rw [mw_n _ _ _ (by decide)]; exact h.2.1 q hq, fun q hq hp => by rw [mw_n _ _ _ (by decide)]; exact h.2.2 q hq hp⟩
set_option maxHeartbeats 4000000 in
theorem sM_fit {zm : MX} {A : AL} {n t : Nat} (c : LM zm A) (a : AOK A) (hn : n ≤ 6) (h37 : zm.1 0 37 = nI n) (hS : ∀ k, k < n → ∃ m, m < 120 ∧ zm.1 14 (3 * k + 1) = nI m) (ht : t < A 0 1) (post : Int32 → MX → Prop) (h : ∀ y1, NM zm y1 → (∀ f m, f < 4 → m < 120 → y1.1 15 (4 * m + f) = trk A t f m) → post (nI (obN (fitF (zm.1 14) A t n) 4)) y1) : pX8_faithsOf zm (nI t) post := by
  have hT := a.2.2.1
  unfold pX8_faithsOf
  have ei : (9 : Int32) + nI t = nI (9 + t) := by rw [show (9 : Int32) = nI 9 from rfl, nI_add]
  rw [ei, nI_clamp (by omega)]
  refine ⟨vp_in_nI (by omega) (by decide), fun had hh => ?_⟩
  have key : ∀ q f y2 g, f + q = 4 → NMx (fun k => k = 9 + t) zm y2 → LM y2 (Au A 3 (4 * t) g) → (∀ f' m, f' < f → m < 120 → y2.1 15 (4 * m + f') = trk A t f' m) → pX8_faithsOf_L15 post (q + 1) y2 (nI t) (nI (obN (fitF (zm.1 14) A t n) f)) had (nI f) := by
    intro q
    induction q with
    | zero =>
      intro f y2 g hf n2 q2 t2
      rw [fo_s15]
      unfold pX8_faithsOf_l15
      have ef : f = 4 := by omega
      rw [ef] at t2 ⊢
      rw [ei, nI_clamp (by omega)]
      refine ⟨fun _ => ⟨vp_in_nI (by omega) (by decide), fun y3 e3 => h y3 (by rw [e3, hh]; exact n2.back) (fun f' m h1 h2 => by rw [e3, mw_n _ _ _ (by decide)]; exact t2 f' m h1 h2)⟩, fun c => absurd (by decide) c⟩
    | succ q ih =>
      intro f y2 g hf n2 q2 t2
      rw [fo_s15]
      unfold pX8_faithsOf_l15
      rw [ei, nI_clamp (by omega)]
      refine ⟨fun c => absurd c (nI_ge (a := f) (b := 4) (by omega) (by decide)), fun _ => ⟨vp_in_nI (by omega) (by decide), fun y3 e3 => ?_⟩⟩
      have q3 : LM y3 (Au A 3 (4 * t) f) := by
        have w := q2.f (t := t) (w := 0) f hT ht (by decide)
        rw [Nat.add_zero (4 * t), Au_Au] at w
        rw [e3]; exact w
      have n3 : NMx (fun k => k = 9 + t) zm y3 := by rw [e3]; exact n2.put _ (Or.inl rfl)
      have hR : ROK (Au A 3 (4 * t) f) := (a.f (t := t) (w := 0) (by decide) (by show f < 4; omega)).R
      refine sM_run q3 hR _ (fun y4 f4 r4 p4 => ?_)
      have n4 := n3.run f4
      have q4 := q3.fr f4
      have e15 : y4.1 15 = y2.1 15 := by rw [f4.1 15 (by decide) (by decide), e3, mw_n _ _ _ (by decide)]
      have p4' : ∀ m, m < 120 → y4.1 13 (4 * m + t) = trk A t f m := fun m hm => p4 m t hm ht
      have inn : ∀ p m y5 (fl : Nat), fl = fitF (zm.1 14) A t n f → m + p = 120 → NMx (fun k => k = 9 + t) zm y5 → LM y5 (Au A 3 (4 * t) f) → y5.1 13 = y4.1 13 → (∀ f' m', f' < f → m' < 120 → y5.1 15 (4 * m' + f') = trk A t f' m') → (∀ m', m' < m → y5.1 15 (4 * m' + f) = trk A t f m') → pX8_faithsOf_L119 (pX8_faithsOf_L15 post (q + 1)) post (p + 1) y5 (nI t) (nI (obN (fitF (zm.1 14) A t n) f)) had (nI f) (nI fl) (nI m) := by
        intro p
        induction p with
        | zero =>
          intro m y5 fl hfl hm n5 q5 c5 u1 u2
          rw [fo_s119]
          unfold pX8_faithsOf_l119
          have em : m = 120 := by omega
          rw [em] at u2 ⊢
          have nx : ∀ v, v = nI (obN (fitF (zm.1 14) A t n) (f + 1)) → pX8_faithsOf_L15 post (q + 1) y5 (nI t) v had (nI (f + 1)) := by
            intro v hv
            rw [hv]
            refine ih (f + 1) y5 f (by omega) n5 q5 (fun f' m' h1 h2 => ?_)
            by_cases e : f' = f
            · rw [e]; exact u2 m' h2
            · exact u1 f' m' (by omega) h2
          unfold pX8_faithsOf_b169
          refine ⟨fun _ => ⟨fun w x hx s hs => ?_, fun w x hx s hs => ?_⟩, fun c => absurd (by decide) c⟩
          · rw [hs, nI_1]
            refine nx _ ?_
            by_cases sw : sawP (zm.1 14) A t f n
            · rw [hfl, fit_y sw] at w; exact absurd w (by decide)
            · rw [hx, obN_s, fit_n sw, if_pos rfl, Nat.add_zero, Int32.or_zero]
          · rw [hs, nI_1]
            refine nx _ ?_
            by_cases sw : sawP (zm.1 14) A t f n
            · rw [hx, shlN (by omega), obN_or (obN_lt _ _), obN_s, fit_y sw, if_neg (by decide)]
            · rw [hfl, fit_n sw] at w; exact absurd rfl w
        | succ p ihp =>
          intro m y5 fl hfl hm n5 q5 c5 u1 u2
          rw [fo_s119]
          unfold pX8_faithsOf_l119
          have e1 : (4 : Int32) * nI m + nI t = nI (4 * m + t) := by rw [show (4 : Int32) = nI 4 from rfl, pk_mul, nI_add]
          have e2 : (4 : Int32) * nI m + nI f = nI (4 * m + f) := by rw [show (4 : Int32) = nI 4 from rfl, pk_mul, nI_add]
          rw [e1, e2, nI_clamp (by omega), nI_clamp (by omega), c5, p4' m (by omega)]
          refine ⟨fun c => absurd c (nI_nlt (a := 119) (b := m) (by omega) (by decide)), fun _ => ⟨vp_in_nI (by omega) (by decide), vp_in_nI (by omega) (by decide), fun y6 e6 x hx => ?_⟩⟩
          rw [hx, nI_1]
          refine ihp (m + 1) y6 fl hfl (by omega) (by rw [e6]; exact n5.w15 _ _) (q5.cells (fun k _ => by rw [e6, mw_n _ _ _ (by decide)]) (fun c h1 h2 => by rw [e6, mw_n _ _ _ (by omega)])) (by rw [e6, mw_n _ _ _ (by decide)]; exact c5) (fun f' m' h1 h2 => ?_) (fun m' h1 => ?_)
          · rw [e6, mw_k _ _ (by omega)]; exact u1 f' m' h1 h2
          · rw [e6, mw_g]
            by_cases e : m' = m
            · rw [if_pos ⟨rfl, by rw [e]⟩, e]
            · rw [if_neg (by omega)]; exact u2 m' (by omega)
      have s14 : y4.1 14 = zm.1 14 := n4.1 14 (by omega)
      have see : ∀ p k (fl : Nat), k + p = n → fl = fitF (zm.1 14) A t k f → pX8_faithsOf_L42 (pX8_faithsOf_L15 post (q + 1)) post (p + 1) y4 (nI t) (nI (obN (fitF (zm.1 14) A t n) f)) had (nI f) (nI fl) (nI k) := by
        intro p
        induction p with
        | zero =>
          intro k fl hk hfl
          rw [fo_s42]
          unfold pX8_faithsOf_l42
          have ek : k = n := by omega
          rw [n4.2.1 37 (by omega), h37, ek]
          rw [ek] at hfl
          exact ⟨fun _ => ⟨121, inn 120 0 y4 fl hfl (by omega) n4 q4 rfl (fun f' m' h1 h2 => by rw [e15]; exact t2 f' m' h1 h2) (fun m' hm => absurd hm (by omega))⟩, fun c => absurd (nI_le (Nat.le_refl _) (by omega)) c⟩
        | succ p ihp =>
          intro k fl hk hfl
          rw [fo_s42]
          unfold pX8_faithsOf_l42
          obtain ⟨m, m1, m2⟩ := hS k (by omega)
          have e1 : (3 : Int32) * nI k = nI (3 * k) := by rw [show (3 : Int32) = nI 3 from rfl, pk_mul]
          have e2 : nI (3 * k) + 1 = nI (3 * k + 1) := nI_1 _
          have e3 : nI (3 * k) + 2 = nI (3 * k + 2) := nI_add _ 2
          have e4 : (4 : Int32) * nI m + nI t = nI (4 * m + t) := by rw [show (4 : Int32) = nI 4 from rfl, pk_mul, nI_add]
          rw [n4.2.1 37 (by omega), h37, e1, e2, e3, nI_clamp (n := 3 * k) (by omega), nI_clamp (n := 3 * k + 1) (by omega), nI_clamp (n := 3 * k + 2) (by omega), s14, m2, e4, nI_clamp (n := 4 * m + t) (by omega), p4' m m1]
          have em : (zm.1 14 (3 * k + 1)).toNatClampNeg = m := by rw [m2, nI_clamp (by omega)]
          unfold pX8_faithsOf_b103 pX8_faithsOf_b107
          have N : ¬ sawP (zm.1 14) A t f (k + 1) → pX8_faithsOf_b108 (pX8_faithsOf_L15 post (q + 1)) (pX8_faithsOf_L42 (pX8_faithsOf_L15 post (q + 1)) post (p + 1)) post y4 (nI t) (nI (obN (fitF (zm.1 14) A t n) f)) had (nI f) (nI k) (0 : Int32) := by
            intro w x hx
            rw [hx, nI_1]
            exact ihp (k + 1) 0 (by omega) (fit_n w).symm
          have Y : sawP (zm.1 14) A t f (k + 1) → pX8_faithsOf_b108 (pX8_faithsOf_L15 post (q + 1)) (pX8_faithsOf_L42 (pX8_faithsOf_L15 post (q + 1)) post (p + 1)) post y4 (nI t) (nI (obN (fitF (zm.1 14) A t n) f)) had (nI f) (nI k) (1 : Int32) := by
            intro w x hx
            rw [hx, nI_1]
            exact ihp (k + 1) 1 (by omega) (fit_y w).symm
          have more : sawP (zm.1 14) A t f k → (zm.1 14 (3 * k) = nI t → trk A t f m = zm.1 14 (3 * k + 2)) → sawP (zm.1 14) A t f (k + 1) := by
            intro w w2 j hj
            by_cases e : j = k
            · rw [e, em]; exact w2
            · exact w j (by omega)
          refine ⟨fun c => absurd c (nI_ge (by omega) (by omega)), fun _ => ⟨fun w => N (fun w2 => ?_), fun w => ?_⟩⟩
          · rw [hfl, fit_y (fun j hj => w2 j (by omega))] at w
            exact absurd w (by decide)
          · have sk : sawP (zm.1 14) A t f k := Classical.byContradiction (fun w2 => w (by rw [hfl, fit_n w2]; rfl))
            refine ⟨vp_in_nI (by omega) (by decide), fun d => Y (more sk (fun d2 => absurd d2 d)), fun d => ⟨vp_in_nI (by omega) (by decide), vp_in_nI (by omega) (by decide), vp_in_nI (by omega) (by decide), fun u => N (fun w2 => u ?_), fun u => Y (more sk (fun _ => u))⟩⟩
            have := w2 k (by omega) d
            rw [em] at this
            exact this
      exact ⟨n + 1, see n 0 1 (by omega) (fit_y (fun k hk => absurd hk (by omega))).symm⟩
  exact ⟨5, key 4 0 zm (A 3 (4 * t)) (by omega) (NMx.rf _ zm) (by rw [Au_self]; exact c) (fun f' m h1 => absurd h1 (by omega))⟩
theorem q_fits {zx zm : MX} (h : Rel zx zm) (x : Int32) : pX7_fits zx x (fun r zx1 => pX8_fits zm x (fun r2 zm1 => r = r2 ∧ Rel zx1 zm1)) := by
  have h0 := h
  obtain ⟨A, a, b, c, d, e, ⟨n, n1, n2, n3, n4⟩, g, i, j, k⟩ := h
  have hT := a.2.2.1
  unfold pX7_fits pX8_fits
  rcases ix x (n := A 0 1) (by omega) with hx | ⟨y, hy, rfl⟩
  · exact sX_trN b hx ⟨fun q => absurd rfl q, fun _ => sM_trN c a hx ⟨fun _ => ⟨rfl, h0⟩, fun q => absurd rfl q⟩⟩
  · have hS : SX zx (zm.1 14) n := ⟨n1, n2, fun k hk => n4 k hk⟩
    refine sX_trY b a hy ⟨fun _ => sX_fit b a hS hy _ (fun z1 m1 _ => ?_), fun q => absurd q (by decide)⟩
    exact sM_trY c a hy ⟨fun q => absurd q (by decide), fun _ => sM_fit c a n1 n3 (fun k hk => (n4 k hk).2.2.2) hy _ (fun y1 w1 _ => ⟨rfl, h0.N m1 w1⟩)⟩
