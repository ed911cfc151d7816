/-! the class's run ends early when all that are out are kept out: every later minute is like this one -/
def cO (r : RS) : Nat → Nat
  | 0 => 0
  | k + 1 => cO r k + (if r 2 k = -4 then 1 else 0)
theorem cO_s (r : RS) (k : Nat) : cO r (k + 1) = cO r k + (if r 2 k = -4 then 1 else 0) := rfl
theorem cO_le (r : RS) : ∀ k, cO r k ≤ k := by
  intro k
  induction k with
  | zero => exact Nat.le_refl _
  | succ k ih =>
    rw [cO_s]
    by_cases c : r 2 k = -4
    · rw [if_pos c]; omega
    · rw [if_neg c]; omega
theorem cO_cong {r r2 : RS} (h : r2 2 = r 2) : ∀ k, cO r2 k = cO r k := by
  intro k
  induction k with
  | zero => rfl
  | succ k ih => rw [cO_s, cO_s, ih, h]
theorem xWait_ne : ∀ j, xWait j ≠ -1 := by
  intro j
  unfold xWait
  by_cases h : j < 20
  · have : ∀ k, k < 20 → ([0, 1, 0, 3, 5, 0, 0, 0, 1, 2, 0, 2, 1, 4, 6, 0, 0, 2, 3, 5] : List Int32).getD k 0 ≠ -1 := by decide
    exact this j h
  · rw [List.getD_eq_getElem?_getD, List.getElem?_eq_none (by simp; omega)]
    decide
theorem aW_ne (A : AL) (r : RS) (t : Nat) : aW A r t ≠ -1 := by
  unfold aW
  by_cases c : r 1 t = -1
  · rw [if_pos c]; exact xWait_ne _
  · rw [if_neg c]; exact c
def Stl (A : AL) (m : Nat) (r : RS) (t : Nat) : Prop := r 3 0 = -4 ∧ A 3 (4 * t + 2) ≤ m ∧ r 0 t ≠ aLast A t ∧ r 1 t ≠ -1 ∧ r 1 t ≤ 0 ∧ occF (r 0) (aNext A t (r 0 t)) 0 (A 0 1) ≠ -4 ∧ ¬ ((nI (A 0 3) >>> (aNext A t (r 0 t) &&& 31)) &&& 1) = 0
theorem aStl {A : AL} {m m2 : Nat} {r : RS} {k : Nat} (h : ∀ t, t < k → r 2 t = -4 → Stl A m r t) (hm : m ≤ m2) : aMin A m2 k r = ru r 3 4 (r 3 4 + nI (cO r k)) := by
  induction k with
  | zero =>
    show r = ru r 3 4 (r 3 4 + 0)
    rw [Int32.add_zero, ru_self]
  | succ k ih =>
    have e := ih (fun t ht => h t (by omega))
    rw [aMin_s, e, cO_s]
    by_cases c : r 2 k = -4
    · obtain ⟨s1, s2, s3, s4, s5, s6, s7⟩ := h k (by omega) c
      have e0 : ∀ v, (ru r 3 4 v) 0 = r 0 := fun v => by funext b; rw [ru_g]; simp
      rw [if_pos (by simp only [ru_g]; simp; exact ⟨s1, c, by omega⟩), if_pos c]
      unfold aStep
      rw [e0, if_neg s3]
      have ew : aW A (ru r 3 4 (r 3 4 + nI (cO r k))) k = r 1 k := by
        unfold aW
        rw [e0]
        simp only [ru_g]
        simp [s4]
      rw [ew, if_pos s5]
      have er : ru (ru r 3 4 (r 3 4 + nI (cO r k))) 1 k (r 1 k) = ru r 3 4 (r 3 4 + nI (cO r k)) := by
        have := ru_self (ru r 3 4 (r 3 4 + nI (cO r k))) 1 k
        have e1 : ru r 3 4 (r 3 4 + nI (cO r k)) 1 k = r 1 k := by rw [ru_g]; simp
        rw [e1] at this
        exact this
      rw [er]
      unfold aEnter
      rw [e0, if_neg s6, if_neg s7, ru_ru]
      congr 1
      rw [ru_g]
      simp
      rw [Int32.add_assoc, nI_1]
    · rw [if_neg (by simp only [ru_g]; simp; exact fun _ q => absurd q c), if_neg c]
      rfl
theorem aKept {A : AL} {m : Nat} {r : RS} : ∀ k, k ≤ A 0 1 → ∃ c, c ≤ cO r k ∧ aMin A m k r 3 4 = r 3 4 + nI c ∧ (∀ t, k ≤ t → aMin A m k r 1 t = r 1 t ∧ aMin A m k r 2 t = r 2 t) ∧ (c = cO r k → aMin A m k r 0 = r 0 ∧ aMin A m k r 2 = r 2 ∧ (∀ j, j ≠ 4 → aMin A m k r 3 j = r 3 j) ∧ ∀ t, t < k → r 2 t = -4 → Stl A m (aMin A m k r) t) := by
  intro k
  induction k with
  | zero =>
    intro _
    exact ⟨0, Nat.le_refl _, by show r 3 4 = r 3 4 + 0; rw [Int32.add_zero], fun t _ => ⟨rfl, rfl⟩, fun _ => ⟨rfl, rfl, fun _ _ => rfl, fun t ht => absurd ht (by omega)⟩⟩
  | succ k ih =>
    intro hk
    obtain ⟨c, c1, c2, c3, c4⟩ := ih (by omega)
    rw [aMin_s]
    generalize aMin A m k r = q at c2 c3 c4 ⊢
    by_cases g : q 3 0 = -4 ∧ q 2 k = -4 ∧ A 3 (4 * k + 2) ≤ m
    · obtain ⟨g1, g2, g3⟩ := g
      rw [if_pos ⟨g1, g2, g3⟩]
      have r2 : r 2 k = -4 := by rw [← (c3 k (Nat.le_refl _)).2]; exact g2
      have ec : cO r (k + 1) = cO r k + 1 := by rw [cO_s, if_pos r2]
      -- a step that is no keeping out
      have other : ∀ q2 : RS, q2 3 4 = q 3 4 → (∀ t, k + 1 ≤ t → q2 1 t = q 1 t ∧ q2 2 t = q 2 t) → ∃ c, c ≤ cO r (k + 1) ∧ q2 3 4 = r 3 4 + nI c ∧ (∀ t, k + 1 ≤ t → q2 1 t = r 1 t ∧ q2 2 t = r 2 t) ∧ (c = cO r (k + 1) → q2 0 = r 0 ∧ q2 2 = r 2 ∧ (∀ j, j ≠ 4 → q2 3 j = r 3 j) ∧ ∀ t, t < k + 1 → r 2 t = -4 → Stl A m q2 t) := by
        intro q2 h1 h2
        exact ⟨c, by omega, by rw [h1]; exact c2, fun t ht => ⟨(h2 t ht).1.trans (c3 t (by omega)).1, (h2 t ht).2.trans (c3 t (by omega)).2⟩, fun e => absurd e (by omega)⟩
      unfold aStep
      by_cases l : q 0 k = aLast A k
      · rw [if_pos l]
        refine other _ (by simp [ru_g]) (fun t ht => ?_)
        have : t ≠ k := by omega
        simp [ru_g, this]
      · rw [if_neg l]
        by_cases w : aW A q k ≤ 0
        · rw [if_pos w]
          unfold aEnter
          have e0 : (ru q 1 k (aW A q k)) 0 = q 0 := by funext b; rw [ru_g]; simp
          rw [e0]
          by_cases o : occF (q 0) (aNext A k (q 0 k)) 0 (A 0 1) = -4
          · rw [if_pos o]
            refine other _ (by simp [ru_g]) (fun t ht => ?_)
            have : t ≠ k := by omega
            simp [ru_g, this]
          · rw [if_neg o]
            by_cases b : ((nI (A 0 3) >>> (aNext A k (q 0 k) &&& 31)) &&& 1) = 0
            · rw [if_pos b]
              refine other _ (by simp [ru_g]) (fun t ht => ?_)
              have : t ≠ k := by omega
              simp [ru_g, this]
            · rw [if_neg b]
              refine ⟨c + 1, by omega, ?_, fun t ht => ?_, fun e => ?_⟩
              · simp only [ru_g]
                simp
                rw [c2, Int32.add_assoc, nI_1]
              · have : t ≠ k := by omega
                have h3 := c3 t (by omega)
                simp [ru_g, this, h3]
              · obtain ⟨d1, d2, d3, d4⟩ := c4 (by omega)
                have f0 : ∀ v, (ru (ru q 1 k (aW A q k)) 3 4 v) 0 = q 0 := fun v => by funext b; simp only [ru_g]; simp
                have f2 : ∀ v, (ru (ru q 1 k (aW A q k)) 3 4 v) 2 = q 2 := fun v => by funext b; simp only [ru_g]; simp
                refine ⟨(f0 _).trans d1, (f2 _).trans d2, fun j hj => ?_, fun t ht hr => ?_⟩
                · simp only [ru_g]
                  simp [hj]
                  exact d3 j hj
                · unfold Stl
                  rw [f0]
                  by_cases e : t = k
                  · subst e
                    refine ⟨by simp [ru_g]; exact g1, g3, l, ?_, ?_, o, b⟩
                    · simp only [ru_g]
                      simp
                      exact aW_ne A q t
                    · simp only [ru_g]
                      simp
                      exact w
                  · obtain ⟨s1, s2, s3, s4, s5, s6, s7⟩ := d4 t (by omega) hr
                    refine ⟨by simp [ru_g]; exact s1, s2, s3, ?_, ?_, s6, s7⟩
                    · simp [ru_g, e]; exact s4
                    · simp [ru_g, e]; exact s5
        · rw [if_neg w]
          refine other _ (by simp [ru_g]) (fun t ht => ?_)
          have : t ≠ k := by omega
          simp [ru_g, this]
    · rw [if_neg g]
      refine ⟨c, ?_, c2, fun t ht => c3 t (by omega), fun e => ?_⟩
      · rw [cO_s]; omega
      · have hc : cO r (k + 1) = cO r k + (if r 2 k = -4 then 1 else 0) := rfl
        by_cases r2 : r 2 k = -4
        · rw [if_pos r2] at hc
          omega
        · rw [if_neg r2] at hc
          obtain ⟨d1, d2, d3, d4⟩ := c4 (by omega)
          refine ⟨d1, d2, d3, fun t ht hr => ?_⟩
          by_cases e : t = k
          · rw [e] at hr
            exact absurd hr r2
          · exact d4 t (by omega) hr
/-- homes are counted -/
def Hc (A : AL) (r : RS) : Prop := r 3 6 + nI (cO r (A 0 1)) = nI (A 0 1)
theorem cO_ru {r : RS} {t : Nat} {v : Int32} (h : r 2 t = -4) (hv : v ≠ -4) : ∀ k, cO r k = cO (ru r 2 t v) k + (if t < k then 1 else 0) := by
  intro k
  induction k with
  | zero => rfl
  | succ k ih =>
    rw [cO_s, cO_s, ih]
    by_cases e : k = t
    · subst e
      have e1 : ru r 2 k v 2 k = v := by rw [ru_g]; simp
      rw [e1, if_pos h, if_neg hv, if_neg (Nat.lt_irrefl _), if_pos (Nat.lt_succ_self _)]
    · have e1 : ru r 2 t v 2 k = r 2 k := by rw [ru_g]; simp [e]
      rw [e1]
      by_cases l : t < k
      · have l2 : t < k + 1 := by omega
        simp only [if_pos l, if_pos l2]
        omega
      · have l2 : ¬ t < k + 1 := by omega
        simp only [if_neg l, if_neg l2]
        omega
theorem Hc_step {A : AL} {r : RS} (h : Hc A r) {t m : Nat} (ht : t < A 0 1) (hr : r 2 t = -4) (hm : m < 2 ^ 31) : Hc A (aStep A r t m) := by
  unfold Hc at h ⊢
  have same : ∀ q : RS, q 3 6 = r 3 6 → q 2 = r 2 → q 3 6 + nI (cO q (A 0 1)) = nI (A 0 1) := by
    intro q h1 h2
    rw [h1, cO_cong h2]
    exact h
  unfold aStep
  by_cases l : r 0 t = aLast A t
  · rw [if_pos l]
    have c := cO_ru (r := r) (v := nI m) hr (nI_neg hm _ (by decide)) (A 0 1)
    rw [if_pos ht] at c
    have e1 : ru (ru (ru r 0 t (-4)) 2 t (nI m)) 3 6 (r 3 6 + 1) 3 6 = r 3 6 + 1 := by rw [ru_g]; simp
    have e2 : cO (ru (ru (ru r 0 t (-4)) 2 t (nI m)) 3 6 (r 3 6 + 1)) (A 0 1) = cO (ru r 2 t (nI m)) (A 0 1) := cO_cong (by funext b; simp only [ru_g]; simp) _
    rw [e1, e2]
    rw [c] at h
    rw [← h, ← nI_1]
    grind
  · rw [if_neg l]
    by_cases w : aW A r t ≤ 0
    · rw [if_pos w]
      unfold aEnter
      by_cases o : occF (ru r 1 t (aW A r t) 0) (aNext A t (r 0 t)) 0 (A 0 1) = -4
      · rw [if_pos o]
        exact same _ (by simp [ru_g]) (by funext b; simp [ru_g])
      · rw [if_neg o]
        by_cases b : ((nI (A 0 3) >>> (aNext A t (r 0 t) &&& 31)) &&& 1) = 0
        · rw [if_pos b]
          exact same _ (by simp [ru_g]) (by funext b; simp [ru_g])
        · rw [if_neg b]
          exact same _ (by simp [ru_g]) (by funext b; simp [ru_g])
    · rw [if_neg w]
      exact same _ (by simp [ru_g]) (by funext b; simp [ru_g])
theorem Hc_min {A : AL} {r : RS} (h : Hc A r) {m : Nat} (hm : m < 2 ^ 31) : ∀ k, k ≤ A 0 1 → Hc A (aMin A m k r) := by
  intro k
  induction k with
  | zero => intro _; exact h
  | succ k ih =>
    intro hk
    rw [aMin_s]
    by_cases c : aMin A m k r 3 0 = -4 ∧ aMin A m k r 2 k = -4 ∧ A 3 (4 * k + 2) ≤ m
    · rw [if_pos c]
      exact Hc_step (ih (by omega)) (by omega) c.2.1 hm
    · rw [if_neg c]
      exact ih (by omega)
theorem cO_beg : ∀ k, cO aBeg k = k := by
  intro k
  induction k with
  | zero => rfl
  | succ k ih => rw [cO_s, ih, if_pos (by unfold aBeg; simp)]
theorem Hc_tr {A : AL} : ∀ m, m < 2 ^ 31 → Hc A (aTr A m) := by
  intro m
  induction m with
  | zero =>
    intro _
    show aBeg 3 6 + nI (cO aBeg (A 0 1)) = nI (A 0 1)
    rw [cO_beg]
    have : aBeg 3 6 = 0 := by unfold aBeg; simp
    rw [this, Int32.zero_add]
  | succ m ih => intro hm; exact Hc_min (ih (by omega)) (by omega) _ (Nat.le_refl _)
/-- behind a bump, behind a standstill -/
theorem aTr_bump {A : AL} {m : Nat} (h : aTr A m 3 0 ≠ -4) : ∀ d, aTr A (m + d) = aTr A m := by
  intro d
  induction d with
  | zero => rfl
  | succ d ih =>
    show aMin A (m + d) (A 0 1) (aTr A (m + d)) = _
    rw [ih]
    have := aMin_bump (A := A) (m := m + d) (r := aTr A m) (A 0 1) 0 h
    rw [Nat.zero_add] at this
    exact this
theorem aTr_still {A : AL} {m : Nat} (h : ∀ t, t < A 0 1 → aTr A m 2 t = -4 → Stl A m (aTr A m) t) : ∀ d, aTr A (m + d) = ru (aTr A m) 3 4 (aTr A m 3 4 + nI (cO (aTr A m) (A 0 1) * d)) := by
  intro d
  induction d with
  | zero =>
    show aTr A m = ru (aTr A m) 3 4 (aTr A m 3 4 + 0)
    rw [Int32.add_zero, ru_self]
  | succ d ih =>
    show aMin A (m + d) (A 0 1) (aTr A (m + d)) = _
    rw [ih]
    generalize aTr A m = r at h ⊢
    have e : ∀ v, cO (ru r 3 4 v) (A 0 1) = cO r (A 0 1) := fun v => cO_cong (by funext b; simp [ru_g]) _
    rw [aStl (m := m) (m2 := m + d) (fun t ht hr => ?_) (by omega), e, ru_ru]
    · congr 1
      rw [ru_g]
      simp
      rw [Int32.add_assoc, nI_add]
      rfl
    · have e0 : ∀ v, (ru r 3 4 v) 0 = r 0 := fun v => by funext b; simp [ru_g]
      obtain ⟨s1, s2, s3, s4, s5, s6, s7⟩ := h t ht (by rw [ru_g] at hr; simpa using hr)
      unfold Stl
      rw [e0]
      exact ⟨by simp [ru_g]; exact s1, s2, s3, by simp [ru_g]; exact s4, by simp [ru_g]; exact s5, s6, s7⟩
def aCost (A : AL) (r : RS) : Nat → Int32
  | 0 => 0
  | k + 1 => aCost A r k + (if r 2 k = -4 then 120 else r 2 k) * nI (A 3 (4 * k + 3))
set_option maxHeartbeats 2000000 in
theorem sX_cost {i : Nat} (hi : i < 4) {z : MX} {A : AL} (hL : LX i z A) (hA : ROK A) {r : RS} (hR : RX z r) (post : MX → Prop) (h : ∀ z1, z1 = mw z 26 8 (aCost A r (A 0 1)) → post z1) : pX2_countCost i z post := by
  have hT := hA.2.2.1
  intro z2 e2
  have key : ∀ k j z3, j + k = A 0 1 → z3 = mw z 26 8 (aCost A r j) → pX2_countCost_L7 i post (k + 1) z3 (nI j) := by
    intro k
    induction k with
    | zero =>
      intro j z3 hj e3
      show pX2_countCost_l7 i _ post z3 (nI j)
      have f3 : fr 26 26 z z3 := by rw [e3]; exact (fr.rf 26 26 z).mw _ _ (by omega) (by omega)
      unfold pX2_countCost_l7
      rw [(hL.fr f3 (by omega)).2.2.2.1]
      have ej : j = A 0 1 := by omega
      rw [ej] at e3
      exact ⟨fun _ => h z3 e3, fun c => absurd (nI_le (by omega) (by omega)) c⟩
    | succ k ih =>
      intro j z3 hj e3
      show pX2_countCost_l7 i _ post z3 (nI j)
      have f3 : fr 26 26 z z3 := by rw [e3]; exact (fr.rf 26 26 z).mw _ _ (by omega) (by omega)
      have hL3 := hL.fr f3 (by omega)
      have b37 : ∀ v, v = (if r 2 j = -4 then 120 else r 2 j) → pX2_countCost_b37 i (pX2_countCost_L7 i post (k + 1)) post z3 (nI j) v := by
        intro v hv
        unfold pX2_countCost_b37
        refine s_fact hL3 hT (by omega) (w := 3) (by decide) _ ?_
        intro z4 e4 x hx
        rw [hx, nI_1]
        refine ih (j + 1) z4 (by omega) ?_
        rw [e4, e3, hv]
        have e5 : (mw z 26 8 (aCost A r j)).1 26 8 = aCost A r j := mw_s _ _ _ _
        rw [e5]
        show mw (mw z 26 8 _) 26 8 _ = mw z 26 8 (aCost A r j + _)
        unfold mw
        rw [mf_mf, mf_at]
        congr 1
        funext q
        unfold upd
        by_cases c : q = 8
        · simp [c]
        · simp [c]
      unfold pX2_countCost_l7
      rw [hL3.2.2.2.1, nI_clamp (by omega), f3.1 29 (by omega), hR.2.2.1 j (by omega)]
      refine ⟨fun c => absurd c (nI_ge (by omega) (by omega)), fun _ => ⟨vp_in_nI (by omega) (by decide), fun c => ⟨vp_in_nI (by omega) (by decide), b37 _ (by rw [if_neg c])⟩, fun c => b37 _ (by rw [if_pos c])⟩⟩
  exact ⟨A 0 1 + 1, key (A 0 1) 0 z2 (by omega) e2⟩
theorem RX_beg {z : MX} (post : MX → Prop) (h : ∀ z1, fr 26 29 z z1 → RX z1 aBeg → post z1) : pX2_begin z post := by
  intro z1 e1 z2 e2 z3 e3 z4 e4 z5 e5 z6 e6 z7 e7 z8 e8
  refine h z8 ?_ ?_
  · rw [e8, e7, e6, e5, e4, e3, e2, e1]
    exact (((((((((fr.rf 26 29 z).mf _ (by omega) (by omega)).mf _ (by omega) (by omega)).mf _ (by omega) (by omega)).mw _ _ (by omega) (by omega)).mw _ _ (by omega) (by omega)).mw _ _ (by omega) (by omega)).mw _ _ (by omega) (by omega)).mw _ _ (by omega) (by omega))
  · rw [e8, e7, e6, e5, e4, e3, e2, e1]
    unfold RX aBeg
    simp only [mw_g, mf_g]
    simp
    exact ⟨fun t ht h4 => absurd ht (by omega), fun t ht h4 => absurd ht (by omega), fun t ht h4 => absurd ht (by omega)⟩
/-- the class's run, whole -/
def TX (A : AL) (z : MX) : Prop := ∃ lm, lm < 120 ∧ z.1 26 4 = nI lm ∧ ∀ t m, t < A 0 1 → m < 120 → z.1 30 (t * 120 + min m lm) = aTr A (m + 1) 0 t
set_option maxHeartbeats 4000000 in
theorem sX_play {i : Nat} (hi : i < 4) {z : MX} {A : AL} (hL : LX i z A) (hA : ROK A) (post : MX → Prop) (h : ∀ z1, fr 26 30 z z1 → RX z1 (aTr A 120) → TX A z1 → z1.1 26 8 = aCost A (aTr A 120) (A 0 1) → post z1) : pX2_play i z post := by
  have hT := hA.2.2.1
  unfold pX2_play
  refine RX_beg _ (fun z1 f1 q1 => ?_)
  have kend : ∀ z2, fr 26 30 z z2 → RX z2 (aTr A 120) → TX A z2 → pX2_play_b106 i post z2 := by
    intro z2 f2 q2 t2
    unfold pX2_play_b106
    refine sX_cost hi (hL.fr f2 (by omega)) hA q2 _ (fun z3 e3 => ?_)
    refine h z3 ?_ ?_ ?_ ?_
    · rw [e3]; exact f2.mw _ _ (by omega) (by omega)
    · rw [e3]
      unfold RX at q2 ⊢
      simp only [mw_g]
      simpa using q2
    · rw [e3]
      unfold TX at t2 ⊢
      simp only [mw_g]
      simpa using t2
    · rw [e3]; exact mw_s _ _ _ _
  have k8 : ∀ k j z2, j + k = 120 → fr 26 30 z z2 → RX z2 (aTr A j) → (∀ t m, t < A 0 1 → m < j → z2.1 30 (t * 120 + m) = aTr A (m + 1) 0 t) → (0 < j → z2.1 26 4 = nI (j - 1)) → aTr A j 3 0 = -4 → pX2_play_L8 i post (k + 1) z2 0 (nI j) := by
    intro k
    induction k with
    | zero =>
      intro j z2 hj f2 q2 d2 l2 b2
      show pX2_play_l8 i _ post z2 0 (nI j)
      unfold pX2_play_l8
      have ej : j = 120 := by omega
      subst ej
      refine ⟨fun _ => kend z2 f2 q2 ⟨119, by omega, l2 (by omega), fun t m ht hm => ?_⟩, fun c => absurd (nI_le (Nat.le_refl 120) (by decide)) c⟩
      rw [show min m 119 = m by omega]
      exact d2 t m ht hm
    | succ k ih =>
      intro j z2 hj f2 q2 d2 l2 b2
      show pX2_play_l8 i _ post z2 0 (nI j)
      unfold pX2_play_l8
      have hL2 := hL.fr f2 (by omega)
      refine ⟨fun c => absurd c (nI_ge (a := j) (b := 120) (by omega) (by decide)), fun _ => ⟨fun c => absurd rfl c, fun _ => ?_⟩⟩
      intro x4 e4 x5 e5
      have hH := Hc_tr (A := A) j (by omega)
      have ex4 : x4 = nI (cO (aTr A j) (A 0 1)) := by
        rw [e4, hL2.2.2.2.1, q2.2.2.2.2.2.1]
        unfold Hc at hH
        rw [← hH]
        grind
      refine sX_minute hi hL2 hA q2 (Iv_tr hA j) (by omega) _ (fun z3 f3 q3 d3 u3 => ?_)
      have q3' : RX z3 (aTr A (j + 1)) := q3
      intro z4 e43 x6 e6
      -- the state behind the minute
      have f4 : fr 26 30 z z4 := by rw [e43]; exact (f2.tr f3).mw _ _ (by omega) (by omega)
      have q4 : RX z4 (aTr A (j + 1)) := by
        rw [e43]
        unfold RX at q3' ⊢
        simp only [mw_g]
        simpa using q3'
      have d4 : ∀ t m, t < A 0 1 → m < j + 1 → z4.1 30 (t * 120 + m) = aTr A (m + 1) 0 t := by
        intro t m ht hm
        rw [e43, mw_n _ _ _ (by decide)]
        by_cases e : m = j
        · subst e
          exact d3 t ht
        · rw [u3 _ (fun t2 ht2 => by omega)]
          exact d2 t m ht (by omega)
      have l4 : z4.1 26 4 = nI j := by rw [e43]; exact mw_s _ _ _ _
      obtain ⟨c, c1, c2, c3, c4⟩ := aKept (A := A) (m := j) (r := aTr A j) (A 0 1) (Nat.le_refl _)
      have hc := cO_le (aTr A j) (A 0 1)
      have ex6 : x6 = nI c := by
        rw [e6, q4.2.2.2.2.2.2.2.1, e5, q2.2.2.2.2.2.2.2.1]
        show aMin A j (A 0 1) (aTr A j) 3 4 - _ = _
        rw [c2]
        grind
      -- the end: every later minute is known
      have over : ∀ z5, fr 26 30 z z5 → RX z5 (aTr A 120) → (∀ q, z5.1 30 q = z4.1 30 q) → z5.1 26 4 = nI j → (∀ m, j ≤ m → m < 120 → ∀ t, aTr A (m + 1) 0 t = aTr A (j + 1) 0 t) → pX2_play_b94 i (pX2_play_L8 i post (k + 1)) post z5 (nI j) := by
        intro z5 f5 q5 t5 l5 p5 x hx
        rw [hx, nI_1]
        show pX2_play_l8 i _ post z5 1 (nI (j + 1))
        unfold pX2_play_l8
        have ke : pX2_play_b106 i post z5 := by
          refine kend z5 f5 q5 ⟨j, by omega, l5, fun t m ht hm => ?_⟩
          rw [t5]
          by_cases e : m < j + 1
          · rw [show min m j = m by omega]
            exact d4 t m ht e
          · rw [show min m j = j by omega, d4 t j ht (by omega)]
            exact (p5 m (by omega) hm t).symm
        exact ⟨fun _ => ke, fun _ => ⟨fun _ => ke, fun c => absurd c (by decide)⟩⟩
      rw [ex6, ex4]
      refine ⟨fun c5 => ?_, fun c5 => ?_⟩
      · unfold pX2_play_b78
        rw [q4.2.2.2.1]
        refine ⟨fun c6 => absurd c6 c5, fun _ => ⟨fun c6 => ?_, fun c6 => ?_⟩⟩
        · intro x hx
          rw [hx, nI_1]
          exact ih (j + 1) z4 (by omega) f4 q4 d4 (fun _ => l4) c6
        · have eb := aTr_bump c6
          refine over z4 f4 ?_ (fun _ => rfl) l4 (fun m hm1 hm2 t => ?_)
          · have := eb (119 - j)
            rw [show j + 1 + (119 - j) = 120 by omega] at this
            rw [this]
            exact q4
          · have := eb (m - j)
            rw [show j + 1 + (m - j) = m + 1 by omega] at this
            rw [this]
      · have ec : c = cO (aTr A j) (A 0 1) := (nI_eq (by omega) (by omega)).mp c5
        obtain ⟨w1, w2, w3, w4⟩ := c4 ec
        have w2' : aTr A (j + 1) 2 = aTr A j 2 := w2
        have st : ∀ t, t < A 0 1 → aTr A (j + 1) 2 t = -4 → Stl A (j + 1) (aTr A (j + 1)) t := by
          intro t ht hr
          rw [w2'] at hr
          obtain ⟨s1, s2, s3⟩ := w4 t ht hr
          exact ⟨s1, by omega, s3⟩
        have es := aTr_still st
        have eco : cO (aTr A (j + 1)) (A 0 1) = c := by rw [cO_cong w2', ec]
        intro z5 e5z
        unfold pX2_play_b78
        have q5 : RX z5 (aTr A 120) := by
          have e120 := es (119 - j)
          rw [show j + 1 + (119 - j) = 120 by omega, eco] at e120
          rw [e120, e5z]
          obtain ⟨g1, g2, g3, g4, g5, g6, g7, g8, g9⟩ := q4
          unfold RX
          simp only [mw_g, ru_g]
          simp
          refine ⟨g1, g2, g3, g4, g5, g6, g7, ?_, g9⟩
          rw [g8]
          congr 1
          rw [show (119 : Int32) = nI 119 from rfl, pk_sub (by omega), pk_mul]
        refine ⟨fun _ => over z5 ?_ q5 ?_ ?_ ?_, fun c6 => absurd c5 (by rw [ec] at c6 ⊢; exact c6)⟩
        · rw [e5z]; exact f4.mw _ _ (by omega) (by omega)
        · intro q
          rw [e5z, mw_n _ _ _ (by decide)]
        · rw [e5z, mw_k _ _ (by decide)]
          exact l4
        · intro m hm1 hm2 t
          have := es (m - j)
          rw [show j + 1 + (m - j) = m + 1 by omega] at this
          rw [this, ru_g]
          simp
  exact ⟨121, k8 120 0 z1 (by omega) (f1.wide (by omega) (by omega)) q1 (fun t m _ hm => absurd hm (by omega)) (fun c => absurd c (by omega)) (by show aBeg 3 0 = -4; unfold aBeg; simp)⟩
