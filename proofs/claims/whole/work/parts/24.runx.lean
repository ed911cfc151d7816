/-! the class's run -/
theorem ru_self (r : RS) (c k : Nat) : ru r c k (r c k) = r := by
  funext a b
  rw [ru_g]
  by_cases h : a = c ∧ b = k
  · rw [if_pos h, h.1, h.2]
  · rw [if_neg h]
theorem ru_ru (r : RS) (c k : Nat) (v w : Int32) : ru (ru r c k v) c k w = ru r c k w := by
  funext a b
  simp only [ru_g]
  by_cases h : a = c ∧ b = k
  · simp [h]
  · simp [h]
set_option maxHeartbeats 2000000 in
theorem sX_b85 {i : Nat} (hi : i < 4) {z : MX} {A : AL} (hL : LX i z A) (hA : ROK A) {r : RS} (hR : RX z r) {t : Nat} (ht : t < A 0 1) (m : Nat) (b : Int32) (post : MX → Prop) (h1 : r 1 t ≤ 0 → ∀ z1, fr 26 29 z z1 → RX z1 (aEnter A r t m b) → post z1) (h2 : ¬ r 1 t ≤ 0 → ∀ z1, fr 26 29 z z1 → RX z1 (ru (ru r 1 t (r 1 t - 1)) 3 3 (r 3 3 + 1)) → post z1) : pX2_step_b85 i post z (nI t) (nI m) b := by
  unfold pX2_step_b85
  have hT := hA.2.2.1
  rw [nI_clamp (by omega)]
  have hR0 := hR
  obtain ⟨r1, r2, r3, r4, r5, r6, r7, r8, r9⟩ := hR
  rw [r2 t (by omega)]
  refine ⟨vp_in_nI (by omega) (by decide), fun c => ?_, fun c => ?_⟩
  · exact sX_enter hi hL hA hR0 ht m b _ (h1 c)
  · refine ⟨vp_in_nI (by omega) (by decide), vp_in_nI (by omega) (by decide), fun z1 e1 z2 e2 => ?_⟩
    refine h2 c z2 (by rw [e2, e1]; exact (((fr.rf 26 29 z).mw _ _ (by omega) (by omega)).mw _ _ (by omega) (by omega))) ?_
    rw [e2, e1]
    unfold RX
    simp only [mw_g, ru_g]
    simp
    refine ⟨r1, fun u hu => ?_, r3, r4, r5, r6, ?_, r8, r9⟩
    · by_cases e : u = t
      · simp [e]
      · simp [e, r2 u hu]
    · rw [r7]
set_option maxHeartbeats 2000000 in
theorem sX_step {i : Nat} (hi : i < 4) {z : MX} {A : AL} (hL : LX i z A) (hA : ROK A) {r : RS} (hR : RX z r) (hI : Iv A r) {t : Nat} (ht : t < A 0 1) (m : Nat) (post : MX → Prop) (h : ∀ z1, fr 26 29 z z1 → RX z1 (aStep A r t m) → post z1) : pX2_step i z (nI t) (nI m) post := by
  unfold pX2_step
  have hT := hA.2.2.1
  rw [nI_clamp (by omega)]
  have hR0 := hR
  obtain ⟨r1, r2, r3, r4, r5, r6, r7, r8, r9⟩ := hR
  refine ⟨vp_in_nI (by omega) (by decide), s_last hL hA ht _ ?_⟩
  rw [r1 t (by omega)]
  unfold aStep at h
  refine ⟨fun c => ?_, fun c => ?_⟩
  · rw [if_neg c] at h
    obtain ⟨b, hb, eb⟩ := aNext_in hA hI ht c
    refine ⟨vp_in_nI (by omega) (by decide), s_next hL hA ht _ _ ?_⟩
    refine ⟨vp_in_nI (by omega) (by decide), fun d => ?_, fun d => ?_⟩
    · rw [r2 t (by omega)] at d
      have ew : aW A r t = r 1 t := by unfold aW; rw [if_neg d]
      rw [ew, ru_self] at h
      refine sX_b85 hi hL hA hR0 ht m _ post (fun e z1 f1 f2 => ?_) (fun e z1 f1 f2 => ?_)
      · rw [if_pos e] at h
        exact h z1 f1 f2
      · rw [if_neg e] at h
        exact h z1 f1 f2
    · rw [r2 t (by omega)] at d
      refine s_fact hL hT ht (w := 0) (by decide) _ ?_
      have ew : aW A r t = aWait A t (aNext A t (r 0 t)) := by unfold aW; rw [if_pos d]
      rw [ew] at h
      have hB := hA.2.1
      refine ⟨by rw [eb]; exact vp_in_nI (by omega) (by decide), ?_⟩
      have eo : z.1 (4 * i + 1) (Int32.toNatClampNeg (aNext A t (r 0 t))) = nI (A 1 b) := by
        rw [eb, nI_clamp (by omega)]
        exact hL.2.2.2.2.1 b (by omega)
      rw [eo]
      unfold pX7_minutesFor
      have ho := hA.2.2.2.1 b (by omega)
      have hf := (hA.2.2.2.2 t ht).1
      have ex : nI (A 3 (4 * t + 0)) * (5 : Int32) + nI (A 1 b) = nI (A 3 (4 * t) * 5 + A 1 b) := by
        rw [show (5 : Int32) = nI 5 from rfl, pk_mul, nI_add]
        rfl
      rw [ex, nI_clamp (by omega)]
      refine ⟨vp_in_nI (by omega) (by decide), vp_in_nI (by omega) (by decide), fun z1 e1 => ?_⟩
      have ea : aWait A t (aNext A t (r 0 t)) = xWait (A 3 (4 * t) * 5 + A 1 b) := by
        unfold aWait
        rw [eb, nI_clamp (by omega)]
      have f1 : fr 26 29 z z1 := by rw [e1]; exact (fr.rf 26 29 z).mw _ _ (by omega) (by omega)
      have q1 : RX z1 (ru r 1 t (aWait A t (aNext A t (r 0 t)))) := by
        rw [e1, ea]
        unfold RX
        simp only [mw_g, ru_g]
        simp
        refine ⟨r1, fun u hu => ?_, r3, r4, r5, r6, r7, r8, r9⟩
        by_cases e : u = t
        · simp [e]
        · simp [e, r2 u hu]
      have es : ru r 1 t (aWait A t (aNext A t (r 0 t))) 1 t = aWait A t (aNext A t (r 0 t)) := by rw [ru_g]; simp
      refine sX_b85 hi (hL.fr f1 (by omega)) hA q1 ht m _ post (fun e z2 f2 g2 => ?_) (fun e z2 f2 g2 => ?_)
      · rw [es] at e
        rw [if_pos e] at h
        exact h z2 (f1.tr f2) g2
      · rw [es] at e g2
        rw [if_neg e] at h
        rw [ru_ru] at g2
        refine h z2 (f1.tr f2) ?_
        have e3 : ru r 1 t (aWait A t (aNext A t (r 0 t))) 3 3 = r 3 3 := by rw [ru_g]; simp
        rw [e3] at g2
        exact g2
  · rw [if_pos c] at h
    refine ⟨vp_in_nI (by omega) (by decide), fun z1 e1 => ⟨vp_in_nI (by omega) (by decide), fun z2 e2 z3 e3 => ?_⟩⟩
    refine h z3 (by rw [e3, e2, e1]; exact ((((fr.rf 26 29 z).mw _ _ (by omega) (by omega)).mw _ _ (by omega) (by omega)).mw _ _ (by omega) (by omega))) ?_
    rw [e3, e2, e1]
    unfold RX
    simp only [mw_g, ru_g]
    simp
    refine ⟨fun u hu => ?_, r2, fun u hu => ?_, r4, r5, ?_, r7, r8, r9⟩
    · by_cases e : u = t
      · simp [e]
      · simp [e, r1 u hu]
    · by_cases e : u = t
      · simp [e]
      · simp [e, r3 u hu]
    · rw [r6]
/-- the invariant of places holds on -/
theorem Iv_step {A : AL} (hA : ROK A) {r : RS} (hI : Iv A r) {t : Nat} (ht : t < A 0 1) (m : Nat) : Iv A (aStep A r t m) := by
  intro u hu
  unfold aStep
  by_cases c : r 0 t = aLast A t
  · rw [if_pos c]
    simp only [ru_g]
    by_cases e : u = t
    · simp [e]
    · simp [e]
      exact hI u hu
  · rw [if_neg c]
    obtain ⟨b, hb, eb⟩ := aNext_in hA hI ht c
    by_cases d : aW A r t ≤ 0
    · rw [if_pos d]
      unfold aEnter
      by_cases o : occF (ru r 1 t (aW A r t) 0) (aNext A t (r 0 t)) 0 (A 0 1) = -4
      · rw [if_pos o]
        simp only [ru_g]
        by_cases e : u = t
        · simp [e]
          exact Or.inr ⟨b, hb, eb⟩
        · simp [e]
          exact hI u hu
      · rw [if_neg o]
        by_cases g : ((nI (A 0 3) >>> (aNext A t (r 0 t) &&& 31)) &&& 1) = 0
        · rw [if_pos g]
          simp only [ru_g]
          simp
          exact hI u hu
        · rw [if_neg g]
          simp only [ru_g]
          simp
          exact hI u hu
    · rw [if_neg d]
      simp only [ru_g]
      simp
      exact hI u hu
theorem Iv_min {A : AL} (hA : ROK A) {r : RS} (hI : Iv A r) (m : Nat) : ∀ k, k ≤ A 0 1 → Iv A (aMin A m k r) := by
  intro k
  induction k with
  | zero => intro _; exact hI
  | succ k ih =>
    intro hk
    unfold aMin
    by_cases c : aMin A m k r 3 0 = -4 ∧ aMin A m k r 2 k = -4 ∧ A 3 (4 * k + 2) ≤ m
    · rw [if_pos c]
      exact Iv_step hA (ih (by omega)) (by omega) m
    · rw [if_neg c]
      exact ih (by omega)
theorem Iv_tr {A : AL} (hA : ROK A) : ∀ m, Iv A (aTr A m) := by
  intro m
  induction m with
  | zero =>
    intro t _
    left
    show aBeg 0 t = -4
    unfold aBeg
    simp
  | succ m ih => exact Iv_min hA ih m _ (Nat.le_refl _)
theorem RX.fr30 {z z1 : MX} {r : RS} (h : RX z r) (hf : fr 30 30 z z1) : RX z1 r := by
  unfold RX
  rw [hf.1 27 (by omega), hf.1 28 (by omega), hf.1 29 (by omega), hf.1 26 (by omega)]
  exact h
theorem aMin_s (A : AL) (m k : Nat) (r : RS) : aMin A m (k + 1) r = if aMin A m k r 3 0 = -4 ∧ aMin A m k r 2 k = -4 ∧ A 3 (4 * k + 2) ≤ m then aStep A (aMin A m k r) k m else aMin A m k r := rfl
/-- once there is a bump nothing more is done in the minute -/
theorem aMin_bump {A : AL} {m : Nat} {r : RS} : ∀ k j, aMin A m j r 3 0 ≠ -4 → aMin A m (j + k) r = aMin A m j r := by
  intro k
  induction k with
  | zero => intro j _; rfl
  | succ k ih =>
    intro j h
    have e := ih j h
    show aMin A m (j + k + 1) r = _
    rw [aMin_s, e, if_neg (fun c => h c.1)]
set_option maxHeartbeats 2000000 in
theorem sX_minute {i : Nat} (hi : i < 4) {z : MX} {A : AL} (hL : LX i z A) (hA : ROK A) {r : RS} (hR : RX z r) (hI : Iv A r) {m : Nat} (hm : m < 120) (post : MX → Prop) (h : ∀ z1, fr 26 30 z z1 → RX z1 (aMin A m (A 0 1) r) → (∀ t, t < A 0 1 → z1.1 30 (t * 120 + m) = aMin A m (A 0 1) r 0 t) → (∀ k, (∀ t, t < A 0 1 → k ≠ t * 120 + m) → z1.1 30 k = z.1 30 k) → post z1) : pX2_playMinute i z (nI m) post := by
  have hT := hA.2.2.1
  -- the second loop: the places are written down
  have k55 : ∀ k j z2, j + k = A 0 1 → fr 26 30 z z2 → RX z2 (aMin A m (A 0 1) r) → (∀ t, t < j → z2.1 30 (t * 120 + m) = aMin A m (A 0 1) r 0 t) → (∀ q, (∀ t, t < A 0 1 → q ≠ t * 120 + m) → z2.1 30 q = z.1 30 q) → pX2_playMinute_L55 i post (k + 1) z2 (nI m) (nI j) := by
    intro k
    induction k with
    | zero =>
      intro j z2 hj f2 q2 d2 u2
      show pX2_playMinute_l55 i _ post z2 (nI m) (nI j)
      unfold pX2_playMinute_l55
      rw [(hL.fr f2 (by omega)).2.2.2.1]
      have ej : j = A 0 1 := by omega
      exact ⟨fun _ => h z2 f2 q2 (by rw [← ej]; exact fun t ht => (d2 t ht).trans (by rw [ej])) u2, fun c => absurd (nI_le (by omega) (by omega)) c⟩
    | succ k ih =>
      intro j z2 hj f2 q2 d2 u2
      show pX2_playMinute_l55 i _ post z2 (nI m) (nI j)
      unfold pX2_playMinute_l55
      rw [(hL.fr f2 (by omega)).2.2.2.1]
      have ex : nI j * (120 : Int32) + nI m = nI (j * 120 + m) := by rw [show (120 : Int32) = nI 120 from rfl, pk_mul, nI_add]
      rw [ex, nI_clamp (n := j * 120 + m) (by omega), nI_clamp (n := j) (by omega)]
      refine ⟨fun c => absurd c (nI_ge (by omega) (by omega)), fun _ => ⟨vp_in_nI (by omega) (by decide), vp_in_nI (by omega) (by decide), fun z3 e3 x hx => ?_⟩⟩
      rw [hx, nI_1]
      have f3 : fr 30 30 z2 z3 := by rw [e3]; exact (fr.rf 30 30 z2).mw _ _ (by omega) (by omega)
      refine ih (j + 1) z3 (by omega) (f2.tr (f3.wide (by omega) (by omega))) (q2.fr30 f3) (fun t ht => ?_) (fun q hq => ?_)
      · rw [e3, mw_g]
        by_cases e : t = j
        · rw [e]
          simp
          exact q2.1 j (by omega)
        · rw [if_neg (by omega)]
          exact d2 t (by omega)
      · rw [e3, mw_g, if_neg (fun c => hq j (by omega) c.2)]
        exact u2 q hq
  have k53 : ∀ z2, fr 26 29 z z2 → RX z2 (aMin A m (A 0 1) r) → pX2_playMinute_b53 i post z2 (nI m) := by
    intro z2 f2 q2
    exact ⟨A 0 1 + 1, k55 (A 0 1) 0 z2 (by omega) (f2.wide (by omega) (by omega)) q2 (fun t ht => absurd ht (by omega)) (fun q _ => by rw [f2.1 30 (by omega)])⟩
  have k2 : ∀ k j z2, j + k = A 0 1 → fr 26 29 z z2 → RX z2 (aMin A m j r) → pX2_playMinute_L2 i post (k + 1) z2 (nI m) (nI j) := by
    intro k
    induction k with
    | zero =>
      intro j z2 hj f2 q2
      show pX2_playMinute_l2 i _ post z2 (nI m) (nI j)
      unfold pX2_playMinute_l2
      rw [(hL.fr f2 (by omega)).2.2.2.1]
      have ej : j = A 0 1 := by omega
      rw [ej] at q2
      exact ⟨fun _ => k53 z2 f2 q2, fun c => absurd (nI_le (by omega) (by omega)) c⟩
    | succ k ih =>
      intro j z2 hj f2 q2
      show pX2_playMinute_l2 i _ post z2 (nI m) (nI j)
      unfold pX2_playMinute_l2
      have hL2 := hL.fr f2 (by omega)
      rw [hL2.2.2.2.1, q2.2.2.2.1]
      refine ⟨fun c => absurd c (nI_ge (by omega) (by omega)), fun _ => ⟨fun c => ?_, fun c => ?_⟩⟩
      · have e := aMin_bump (A := A) (m := m) (r := r) (A 0 1 - j) j c
        rw [show j + (A 0 1 - j) = A 0 1 by omega] at e
        exact k53 z2 f2 (by rw [e]; exact q2)
      · refine s_fact hL2 hT (by omega) (w := 2) (by decide) _ ?_
        have hs := (hA.2.2.2.2 j (by omega)).2.2.1
        refine ⟨fun d => ?_, fun d => ?_⟩
        · have d' := (nI_ltI (by omega) (by omega)).mp d
          intro x hx
          rw [hx, nI_1]
          refine ih (j + 1) z2 (by omega) f2 ?_
          rw [aMin_s, if_neg (by omega)]
          exact q2
        · have d' : ¬ m < A 3 (4 * j + 2) := fun q => d (nI_lt q (by omega))
          rw [nI_clamp (by omega), q2.2.2.1 j (by omega)]
          refine ⟨vp_in_nI (by omega) (by decide), fun e => ?_, fun e => ?_⟩
          · intro x hx
            rw [hx, nI_1]
            refine ih (j + 1) z2 (by omega) f2 ?_
            rw [aMin_s, if_neg (fun q => e q.2.1)]
            exact q2
          · refine sX_step hi hL2 hA q2 (Iv_min hA hI m j (by omega)) (by omega) m _ (fun z3 f3 q3 => ?_)
            intro x hx
            rw [hx, nI_1]
            refine ih (j + 1) z3 (by omega) (f2.tr f3) ?_
            rw [aMin_s, if_pos ⟨c, e, by omega⟩]
            exact q3
  exact ⟨A 0 1 + 1, k2 (A 0 1) 0 z (by omega) (fr.rf 26 29 z) hR⟩
