/-! the reference's run -/
def frM (z z1 : MX) : Prop := (∀ c, c ≠ 0 → c < 9 ∨ 13 < c → z1.1 c = z.1 c) ∧ (∀ k, k < 30 ∨ 35 < k → z1.1 0 k = z.1 0 k) ∧ z1.2 = z.2
theorem frM.rf (z : MX) : frM z z := ⟨fun _ _ _ => rfl, fun _ _ => rfl, rfl⟩
theorem frM.tr {z z1 z2 : MX} (h : frM z z1) (h2 : frM z1 z2) : frM z z2 := ⟨fun c a b => (h2.1 c a b).trans (h.1 c a b), fun k a => (h2.2.1 k a).trans (h.2.1 k a), h2.2.2.trans h.2.2⟩
theorem frM.row {z z1 : MX} (h : frM z z1) {c : Nat} (k : Nat) (v : Int32) (h1 : 9 ≤ c) (h2 : c ≤ 13) : frM z (mw z1 c k v) := ⟨fun a ha hb => by rw [mw_n _ _ _ (by omega)]; exact h.1 a ha hb, fun a ha => by rw [mw_n _ _ _ (by omega)]; exact h.2.1 a ha, h.2.2⟩
theorem frM.fld {z z1 : MX} (h : frM z z1) {k : Nat} (v : Int32) (h1 : 30 ≤ k) (h2 : k ≤ 35) : frM z (mw z1 0 k v) := ⟨fun a ha hb => by rw [mw_n _ _ _ ha]; exact h.1 a ha hb, fun a ha => by rw [mw_k _ _ (by omega)]; exact h.2.1 a ha, h.2.2⟩
def LM (z : MX) (A : AL) : Prop := z.1 0 1 = nI (A 0 0) ∧ z.1 0 2 = nI (A 0 1) ∧ z.1 0 4 = nI (A 0 2) ∧ z.1 1 8 = nI (A 0 3) ∧ (∀ b, b < 8 → z.1 1 b = nI (A 1 b)) ∧ (∀ j, j < 2 * A 0 2 → z.1 2 j = nI (A 2 j)) ∧ (∀ t w, t < A 0 1 → w < 4 → z.1 1 (9 + 4 * w + t) = nI (A 3 (4 * t + w))) ∧ (∀ j, j < 20 → z.1 3 j = xWait j)
theorem LM.fr {z z1 : MX} {A : AL} (h : LM z A) (hf : frM z z1) : LM z1 A := by
  unfold LM
  rw [hf.2.1 1 (by omega), hf.2.1 2 (by omega), hf.2.1 4 (by omega), hf.1 1 (by omega) (by omega), hf.1 2 (by omega) (by omega), hf.1 3 (by omega) (by omega)]
  exact h
def RM (z : MX) (r : RS) : Prop := (∀ t, t < 4 → z.1 9 t = r 0 t) ∧ (∀ t, t < 4 → (z.1 11 t = 0 ∧ r 1 t = -1) ∨ (z.1 11 t = 1 ∧ r 1 t ≠ -1 ∧ z.1 10 t = r 1 t)) ∧ (∀ t, t < 4 → z.1 12 t = r 2 t) ∧ z.1 0 30 = r 3 0 ∧ z.1 0 31 = r 3 1 ∧ z.1 0 32 = r 3 2 ∧ z.1 0 33 = r 3 3 ∧ z.1 0 34 = r 3 4 ∧ z.1 0 35 = r 3 5
/-- no two trains in one block -/
def Dj (A : AL) (r : RS) : Prop := ∀ t u, t < A 0 1 → u < A 0 1 → t ≠ u → r 0 t ≠ -4 → r 0 t ≠ r 0 u
theorem occ_none {f : Nat → Int32} {b : Int32} : ∀ k j, (∀ u, j ≤ u → u < j + k → f u ≠ b) → occF f b j k = -4 := by
  intro k
  induction k with
  | zero => intro j _; rfl
  | succ k ih =>
    intro j h
    unfold occF
    rw [if_neg (h j (by omega) (by omega))]
    exact ih (j + 1) (fun u h1 h2 => h u (by omega) (by omega))
theorem occ_some {f : Nat → Int32} {b : Int32} : ∀ k j, j + k < 2 ^ 31 → occF f b j k = -4 → ∀ u, j ≤ u → u < j + k → f u ≠ b := by
  intro k
  induction k with
  | zero => intro j _ _ u h1 h2; omega
  | succ k ih =>
    intro j hj h u h1 h2
    unfold occF at h
    by_cases c : f j = b
    · rw [if_pos c] at h
      exact absurd h (nI_neg (by omega) _ (by decide))
    · rw [if_neg c] at h
      by_cases e : u = j
      · rw [e]; exact c
      · exact ih (j + 1) (by omega) h u (by omega) (by omega)
theorem Dj_step {A : AL} (hA : ROK A) {r : RS} (hI : Iv A r) (hD : Dj A r) {t : Nat} (ht : t < A 0 1) (m : Nat) : Dj A (aStep A r t m) := by
  have hT := hA.2.2.1
  have same : ∀ q : RS, q 0 = r 0 → Dj A q := by
    intro q e x y hx hy hn
    rw [e]
    exact hD x y hx hy hn
  unfold aStep
  by_cases l : r 0 t = aLast A t
  · rw [if_pos l]
    intro x y hx hy hn h4
    simp only [ru_g] at h4 ⊢
    by_cases ex : x = t
    · simp [ex] at h4
    · simp [ex] at h4 ⊢
      by_cases ey : y = t
      · simp [ey]; exact h4
      · simp [ey]; exact hD x y hx hy hn h4
  · rw [if_neg l]
    obtain ⟨b, hb, eb⟩ := aNext_in hA hI ht l
    by_cases w : aW A r t ≤ 0
    · rw [if_pos w]
      unfold aEnter
      have e0 : (ru r 1 t (aW A r t)) 0 = r 0 := by funext b; simp [ru_g]
      rw [e0]
      by_cases o : occF (r 0) (aNext A t (r 0 t)) 0 (A 0 1) = -4
      · rw [if_pos o]
        have no := occ_some _ _ (by omega) o
        intro x y hx hy hn h4
        simp only [ru_g] at h4 ⊢
        by_cases ex : x = t
        · have ey : y ≠ t := by omega
          simp [ex, ey] at h4 ⊢
          exact fun e => no y (by omega) (by omega) e.symm
        · simp [ex] at h4 ⊢
          by_cases ey : y = t
          · simp [ey]
            exact no x (by omega) (by omega)
          · simp [ey]
            exact hD x y hx hy hn h4
      · rw [if_neg o]
        by_cases g : ((nI (A 0 3) >>> (aNext A t (r 0 t) &&& 31)) &&& 1) = 0
        · rw [if_pos g]
          exact same _ (by funext b; simp [ru_g])
        · rw [if_neg g]
          exact same _ (by funext b; simp [ru_g])
    · rw [if_neg w]
      exact same _ (by funext b; simp [ru_g])
theorem Dj_min {A : AL} (hA : ROK A) {r : RS} (hI : Iv A r) (hD : Dj A r) (m : Nat) : ∀ k, k ≤ A 0 1 → Dj A (aMin A m k r) := by
  intro k
  induction k with
  | zero => intro _; exact hD
  | succ k ih =>
    intro hk
    rw [aMin_s]
    by_cases c : aMin A m k r 3 0 = -4 ∧ aMin A m k r 2 k = -4 ∧ A 3 (4 * k + 2) ≤ m
    · rw [if_pos c]
      exact Dj_step hA (Iv_min hA hI m k (by omega)) (ih (by omega)) (by omega) m
    · rw [if_neg c]
      exact ih (by omega)
theorem Dj_tr {A : AL} (hA : ROK A) : ∀ m, Dj A (aTr A m) := by
  intro m
  induction m with
  | zero =>
    intro t u _ _ _ h
    exact absurd (by show aBeg 0 t = -4; unfold aBeg; simp) h
  | succ m ih => exact Dj_min hA (Iv_tr hA m) ih m _ (Nat.le_refl _)
theorem sM_up {z : MX} {A : AL} (hL : LM z A) (hA : ROK A) {t : Nat} (ht : t < A 0 1) (post : Int32 → MX → Prop) (h : post (if A 3 (4 * t + 1) = 0 then 1 else 0) z) : pX8_isUp z (nI t) post := by
  unfold pX8_isUp
  have hT := hA.2.2.1
  have e : (13 : Int32) + nI t = nI (13 + t) := by rw [show (13 : Int32) = nI 13 from rfl, nI_add]
  have v := hL.2.2.2.2.2.2.1 t 1 ht (by decide)
  have hw := (hA.2.2.2.2 t ht).2.1
  rw [show 9 + 4 * 1 + t = 13 + t by omega] at v
  rw [e, nI_clamp (by omega), v]
  refine ⟨vp_in_nI (by omega) (by decide), fun c => ⟨Or.inl rfl, ?_⟩, fun c => ⟨Or.inr rfl, ?_⟩⟩
  · rw [if_neg (fun e => c (by rw [e]; rfl))] at h
    exact h
  · rw [if_pos ((nI_eq (by omega) (by decide)).mp c)] at h
    exact h
theorem sM_next {z : MX} {A : AL} (hL : LM z A) (hA : ROK A) {t : Nat} (ht : t < A 0 1) (post : Int32 → MX → Prop) (h : post (aNext A t (z.1 9 t)) z) : pX8_nextBlock z (nI t) post := by
  unfold pX8_nextBlock
  have hT := hA.2.2.1
  have hB := hA.1
  rw [nI_clamp (by omega)]
  unfold aNext at h
  refine ⟨vp_in_nI (by omega) (by decide), fun c => ?_, fun c => ?_⟩
  · refine sM_up hL hA ht _ ?_
    by_cases w : A 3 (4 * t + 1) = 0
    · simp only [if_pos w, if_neg c] at h ⊢
      exact ⟨fun d => absurd d (by decide), fun _ => ⟨vp_in_nI (by omega) (by decide), h⟩⟩
    · simp only [if_neg w, if_neg c] at h ⊢
      exact ⟨fun _ => ⟨vp_in_nI (by omega) (by decide), h⟩, fun d => absurd trivial d⟩
  · refine sM_up hL hA ht _ ?_
    by_cases w : A 3 (4 * t + 1) = 0
    · simp only [if_pos w, if_pos c] at h ⊢
      exact ⟨fun d => absurd d (by decide), fun _ => h⟩
    · simp only [if_neg w, if_pos c] at h ⊢
      rw [hL.1, nI_m1 (by omega)]
      exact ⟨fun _ => h, fun d => absurd trivial d⟩
def otF (f : Nat → Int32) (t : Nat) (b : Int32) : Nat → Nat → Int32 → Int32
  | _, 0, a => a
  | j, k + 1, a => otF f t b (j + 1) k (if j ≠ t ∧ f j = b then nI j else a)
theorem ot_occ {f : Nat → Int32} {t : Nat} {b : Int32} (hb : f t ≠ b) : ∀ k j a, j + k < 2 ^ 31 → (∀ u v, j ≤ u → u < j + k → j ≤ v → v < j + k → f u = b → f v = b → u = v) → otF f t b j k a = if occF f b j k = -4 then a else occF f b j k := by
  intro k
  induction k with
  | zero => intro j a _ _; rfl
  | succ k ih =>
    intro j a hj hu
    unfold otF occF
    by_cases c : f j = b
    · have ej : j ≠ t := fun e => hb (e ▸ c)
      have no : occF f b (j + 1) k = -4 := occ_none _ _ (fun u h1 h2 e => absurd (hu u j (by omega) (by omega) (by omega) (by omega) e c) (by omega))
      rw [if_pos ⟨ej, c⟩, if_pos c, ih (j + 1) _ (by omega) (fun u v a1 a2 a3 a4 => hu u v (by omega) (by omega) (by omega) (by omega)), no, if_pos rfl, if_neg (nI_neg (by omega) _ (by decide))]
    · rw [if_neg (fun e => c e.2), if_neg c]
      exact ih (j + 1) a (by omega) (fun u v a1 a2 a3 a4 => hu u v (by omega) (by omega) (by omega) (by omega))
theorem sM_other {z : MX} {A : AL} (hL : LM z A) (hA : ROK A) {t : Nat} (ht : t < A 0 1) (b : Int32) (hb : z.1 9 t ≠ b) (hu : ∀ u v, u < A 0 1 → v < A 0 1 → z.1 9 u = b → z.1 9 v = b → u = v) (post : Int32 → MX → Prop) (h : post (occF (z.1 9) b 0 (A 0 1)) z) : pX8_otherIn z (nI t) b post := by
  have hT := hA.2.2.1
  have key : ∀ k j a, j + k = A 0 1 → post (otF (z.1 9) t b j k a) z → pX8_otherIn_L6 post (k + 1) z (nI t) b a (nI j) := by
    intro k
    induction k with
    | zero =>
      intro j a hj h
      show pX8_otherIn_l6 _ post z (nI t) b a (nI j)
      unfold pX8_otherIn_l6
      rw [hL.2.1]
      exact ⟨fun _ => h, fun c => absurd (nI_le (by omega) (by omega)) c⟩
    | succ k ih =>
      intro j a hj h
      show pX8_otherIn_l6 _ post z (nI t) b a (nI j)
      unfold pX8_otherIn_l6
      rw [hL.2.1, nI_clamp (by omega)]
      unfold otF at h
      have go : ∀ v, post (otF (z.1 9) t b (j + 1) k v) z → pX8_otherIn_b38 (pX8_otherIn_L6 post (k + 1)) post z (nI t) b (nI j) v := by
        intro v hv x hx
        rw [hx, nI_1]
        exact ih (j + 1) v (by omega) hv
      refine ⟨fun c => absurd c (nI_ge (by omega) (by omega)), fun _ => ⟨fun c => ?_, fun c => ⟨vp_in_nI (by omega) (by decide), fun d => ?_, fun d => ?_⟩⟩⟩
      · have e : j = t := (nI_eq (by omega) (by omega)).mp c
        rw [if_neg (fun q => q.1 e)] at h
        exact go a h
      · rw [if_neg (fun q => d q.2)] at h
        exact go a h
      · rw [if_pos ⟨fun e => c (by rw [e]), d⟩] at h
        exact go _ h
  refine ⟨A 0 1 + 1, key (A 0 1) 0 (-4) (by omega) ?_⟩
  rw [ot_occ hb _ _ _ (by omega) (fun u v _ h2 _ h4 => hu u v (by omega) (by omega))]
  by_cases c : occF (z.1 9) b 0 (A 0 1) = -4
  · rw [if_pos c]; rw [c] at h; exact h
  · rw [if_neg c]; exact h
set_option maxHeartbeats 4000000 in
theorem sM_b94 {z : MX} {A : AL} (hL : LM z A) (hA : ROK A) {r : RS} (hR : RM z r) {t : Nat} (ht : t < A 0 1) (m : Nat) (b : Int32) (hs : z.1 11 t = 1) (hb : r 0 t ≠ b) (hu : ∀ u v, u < A 0 1 → v < A 0 1 → r 0 u = b → r 0 v = b → u = v) (post : MX → Prop) (h1 : r 1 t ≤ 0 → ∀ z1, frM z z1 → z1.1 13 = z.1 13 → RM z1 (aEnter A r t m b) → post z1) (h2 : ¬ r 1 t ≤ 0 → ∀ z1, frM z z1 → z1.1 13 = z.1 13 → RM z1 (ru (ru r 1 t (r 1 t - 1)) 3 3 (r 3 3 + 1)) → post z1) : pX8_moves_b94 post z (nI t) (nI m) b := by
  unfold pX8_moves_b94
  have hT := hA.2.2.1
  obtain ⟨r1, r2, r3, r4, r5, r6, r7, r8, r9⟩ := hR
  have ew : r 1 t ≠ -1 ∧ z.1 10 t = r 1 t := by
    rcases r2 t (by omega) with ⟨e, _⟩ | ⟨_, e, e2⟩
    · rw [hs] at e; exact absurd e (by decide)
    · exact ⟨e, e2⟩
  rw [nI_clamp (by omega), ew.2]
  have eo : occF (z.1 9) b 0 (A 0 1) = occF (r 0) b 0 (A 0 1) := occ_cong b _ _ (fun u _ hu => r1 u (by omega))
  refine ⟨vp_in_nI (by omega) (by decide), fun c => ?_, fun c => ?_⟩
  · have h := h1 c
    refine sM_other hL hA ht b (by rw [r1 t (by omega)]; exact hb) (fun u v hu1 hv1 e1 e2 => hu u v hu1 hv1 (by rw [← r1 u (by omega)]; exact e1) (by rw [← r1 v (by omega)]; exact e2)) _ ?_
    rw [eo, show Int32.toNatClampNeg (8 : Int32) = 8 from rfl, hL.2.2.2.1]
    unfold aEnter at h
    refine ⟨fun d => ⟨vp_in_nI (n := 8) (by omega) (by decide), fun g => ?_, fun g => ?_⟩, fun d => ?_⟩
    · have g0 : ((nI (A 0 3) >>> (b &&& 31)) &&& 1) = 0 := by
        rcases pk_1or (x := nI (A 0 3) >>> (b &&& 31)) with e | e
        · exact e
        · exact absurd e g
      rw [if_neg d, if_pos g0] at h
      intro z1 e1 z2 e2 z3 e3
      refine h z3 (by rw [e3, e2, e1]; exact (((frM.rf z).fld _ (by omega) (by omega)).fld _ (by omega) (by omega)).fld _ (by omega) (by omega)) (by rw [e3, e2, e1]; rw [mw_n _ _ _ (by decide), mw_n _ _ _ (by decide), mw_n _ _ _ (by decide)]) ?_
      rw [e3, e2, e1]
      unfold RM
      simp only [mw_g, ru_g]
      simp
      exact ⟨r1, r2, r3, r7, r8, r9⟩
    · have g0 : ¬ ((nI (A 0 3) >>> (b &&& 31)) &&& 1) = 0 := by rw [g]; decide
      rw [if_neg d, if_neg g0] at h
      intro z1 e1
      refine h z1 (by rw [e1]; exact (frM.rf z).fld _ (by omega) (by omega)) (by rw [e1]; rw [mw_n _ _ _ (by decide)]) ?_
      rw [e1]
      unfold RM
      simp only [mw_g, ru_g]
      simp
      exact ⟨r1, r2, r3, r4, r5, r6, r7, r8, r9⟩
    · rw [if_pos d] at h
      refine ⟨vp_in_nI (by omega) (by decide), fun z1 e1 => ⟨vp_in_nI (by omega) (by decide), Or.inl rfl, fun z2 e2 z3 e3 => ?_⟩⟩
      refine h z3 (by rw [e3, e2, e1]; exact (((frM.rf z).row _ _ (by omega) (by omega)).row _ _ (by omega) (by omega)).fld _ (by omega) (by omega)) (by rw [e3, e2, e1]; rw [mw_n _ _ _ (by decide), mw_n _ _ _ (by decide), mw_n _ _ _ (by decide)]) ?_
      rw [e3, e2, e1]
      unfold RM
      simp only [mw_g, ru_g]
      simp
      refine ⟨fun u hu => ?_, fun u hu => ?_, r3, r4, r5, r6, r7, r8, ?_⟩
      · by_cases e : u = t
        · simp [e]
        · simp [e, r1 u hu]
      · by_cases e : u = t
        · simp [e]
        · simp [e]
          exact r2 u hu
      · rw [r9]
  · refine ⟨vp_in_nI (by omega) (by decide), vp_in_nI (by omega) (by decide), fun z1 e1 z2 e2 => ?_⟩
    refine h2 c z2 (by rw [e2, e1]; exact (((frM.rf z).row _ _ (by omega) (by omega)).fld _ (by omega) (by omega))) (by rw [e2, e1]; rw [mw_n _ _ _ (by decide), mw_n _ _ _ (by decide)]) ?_
    rw [e2, e1]
    unfold RM
    simp only [mw_g, ru_g]
    simp
    refine ⟨r1, fun u hu => ?_, r3, r4, r5, r6, ?_, r8, r9⟩
    · by_cases e : u = t
      · simp [e, hs]
        grind
      · simp [e]
        exact r2 u hu
    · rw [r7]
set_option maxHeartbeats 4000000 in
theorem sM_step {z : MX} {A : AL} (hL : LM z A) (hA : ROK A) {r : RS} (hR : RM z r) (hI : Iv A r) (hD : Dj A r) {t : Nat} (ht : t < A 0 1) (m : Nat) (post : MX → Prop) (h : ∀ z1, frM z z1 → z1.1 13 = z.1 13 → RM z1 (aStep A r t m) → post z1) : pX8_moves z (nI t) (nI m) post := by
  unfold pX8_moves
  have hT := hA.2.2.1
  have hB := hA.1
  have hB8 := hA.2.1
  have hR0 := hR
  obtain ⟨r1, r2, r3, r4, r5, r6, r7, r8, r9⟩ := hR
  rw [nI_clamp (by omega), r1 t (by omega)]
  have b24 : pX8_moves_b24 post z (nI t) (nI m) (r 0 t) (aLast A t) := by
    unfold pX8_moves_b24
    unfold aStep at h
    refine ⟨fun c => ?_, fun c => ?_⟩
    · rw [if_neg c] at h
      obtain ⟨b, hb, eb⟩ := aNext_in hA hI ht c
      refine sM_next hL hA ht _ ?_
      rw [r1 t (by omega)]
      have ne : r 0 t ≠ aNext A t (r 0 t) := by
        rw [eb]
        rcases hI t ht with e | ⟨p, hp, e⟩
        · rw [e]; exact fun q => nI_neg (n := b) (by omega) _ (by decide) q.symm
        · intro q
          unfold aNext at eb
          rw [e] at eb q
          have q' := (nI_eq (by omega) (by omega)).mp q
          rw [if_neg (nI_neg (n := p) (by omega) _ (by decide)), if_neg (nI_neg (n := p) (by omega) _ (by decide))] at eb
          by_cases w : A 3 (4 * t + 1) = 0
          · rw [if_pos w, nI_1] at eb
            have := (nI_eq (by omega) (by omega)).mp eb
            omega
          · rw [if_neg w] at eb
            by_cases p0 : p = 0
            · rw [p0] at eb
              rw [← q', p0] at eb
              exact absurd eb (by decide)
            · rw [nI_m1 (by omega)] at eb
              have := (nI_eq (by omega) (by omega)).mp eb
              omega
      have hu : ∀ u v, u < A 0 1 → v < A 0 1 → r 0 u = aNext A t (r 0 t) → r 0 v = aNext A t (r 0 t) → u = v := by
        intro u v hu hv e1 e2
        by_cases e : u = v
        · exact e
        · exact absurd (e1.trans e2.symm) (hD u v hu hv e (by rw [e1, eb]; exact nI_neg (by omega) _ (by decide)))
      refine ⟨vp_in_nI (by omega) (by decide), fun d => ?_, fun d => ?_⟩
      · rw [nI_clamp (by omega)] at d
        have hs : z.1 11 t = 1 := by
          rcases r2 t (by omega) with ⟨e, _⟩ | ⟨e, _, _⟩
          · exact absurd e d
          · exact e
        have hw : r 1 t ≠ -1 := by
          rcases r2 t (by omega) with ⟨e, _⟩ | ⟨_, e, _⟩
          · exact absurd e d
          · exact e
        have ew : aW A r t = r 1 t := by unfold aW; rw [if_neg hw]
        rw [ew, ru_self] at h
        refine sM_b94 hL hA hR0 ht m _ hs ne hu post (fun e z1 f1 g1 q1 => ?_) (fun e z1 f1 g1 q1 => ?_)
        · rw [if_pos e] at h
          exact h z1 f1 g1 q1
        · rw [if_neg e] at h
          exact h z1 f1 g1 q1
      · rw [nI_clamp (by omega)] at d ⊢
        have hw : r 1 t = -1 := by
          rcases r2 t (by omega) with ⟨_, e⟩ | ⟨e, _, _⟩
          · exact e
          · rw [d] at e; exact absurd e (by decide)
        have ew : aW A r t = aWait A t (aNext A t (r 0 t)) := by unfold aW; rw [if_pos hw]
        rw [ew] at h
        refine ⟨vp_in_nI (by omega) (by decide), Or.inr rfl, fun z1 e1 => ?_⟩
        have e9 : (9 : Int32) + nI t = nI (9 + t) := by rw [show (9 : Int32) = nI 9 from rfl, nI_add]
        have v1 : z1.1 1 (9 + t) = nI (A 3 (4 * t)) := by
          rw [e1, mw_n _ _ _ (by decide)]
          have := hL.2.2.2.2.2.2.1 t 0 ht (by decide)
          exact this
        have v2 : z1.1 1 b = nI (A 1 b) := by
          rw [e1, mw_n _ _ _ (by decide)]
          exact hL.2.2.2.2.1 b (by omega)
        have ho := hA.2.2.2.1 b (by omega)
        have hf := (hA.2.2.2.2 t ht).1
        rw [e9, eb, nI_clamp (n := 9 + t) (by omega), nI_clamp (n := b) (by omega), v1, v2]
        have ex : (5 : Int32) * nI (A 3 (4 * t)) + nI (A 1 b) = nI (A 3 (4 * t) * 5 + A 1 b) := by
          rw [show (5 : Int32) = nI 5 from rfl, pk_mul, nI_add, Nat.mul_comm]
        rw [ex, nI_clamp (n := A 3 (4 * t) * 5 + A 1 b) (by omega)]
        refine ⟨vp_in_nI (by omega) (by decide), vp_in_nI (by omega) (by decide), vp_in_nI (by omega) (by decide), vp_in_nI (by omega) (by decide), fun z2 e2 => ?_⟩
        have ea : aWait A t (aNext A t (r 0 t)) = xWait (A 3 (4 * t) * 5 + A 1 b) := by
          unfold aWait
          rw [eb, nI_clamp (by omega)]
        have v3 : z1.1 3 (A 3 (4 * t) * 5 + A 1 b) = xWait (A 3 (4 * t) * 5 + A 1 b) := by
          rw [e1, mw_n _ _ _ (by decide)]
          exact hL.2.2.2.2.2.2.2 _ (by omega)
        rw [v3] at e2
        have f2 : frM z z2 := by rw [e2, e1]; exact ((frM.rf z).row _ _ (by omega) (by omega)).row _ _ (by omega) (by omega)
        have g2 : z2.1 13 = z.1 13 := by rw [e2, e1, mw_n _ _ _ (by decide), mw_n _ _ _ (by decide)]
        have q2 : RM z2 (ru r 1 t (aWait A t (aNext A t (r 0 t)))) := by
          rw [e2, e1, ea]
          unfold RM
          simp only [mw_g, ru_g]
          simp
          refine ⟨r1, fun u hu => ?_, r3, r4, r5, r6, r7, r8, r9⟩
          by_cases e : u = t
          · simp [e]
            exact xWait_ne _
          · simp [e]
            exact r2 u hu
        have hs : z2.1 11 t = 1 := by rw [e2, e1, mw_n _ _ _ (by decide), mw_s]
        have es : ru r 1 t (aWait A t (aNext A t (r 0 t))) 1 t = aWait A t (aNext A t (r 0 t)) := by rw [ru_g]; simp
        have e0 : ru r 1 t (aWait A t (aNext A t (r 0 t))) 0 = r 0 := by funext b; simp [ru_g]
        have e3 : ru r 1 t (aWait A t (aNext A t (r 0 t))) 3 3 = r 3 3 := by rw [ru_g]; simp
        rw [← eb]
        refine sM_b94 (hL.fr f2) hA q2 ht m _ hs (by rw [e0]; exact ne) (by rw [e0]; exact hu) post (fun e z3 f3 g3 q3 => ?_) (fun e z3 f3 g3 q3 => ?_)
        · rw [es] at e
          rw [if_pos e] at h
          exact h z3 (f2.tr f3) (g3.trans g2) q3
        · rw [es] at e q3
          rw [if_neg e] at h
          rw [ru_ru, e3] at q3
          exact h z3 (f2.tr f3) (g3.trans g2) q3
    · rw [if_pos c] at h
      refine ⟨vp_in_nI (by omega) (by decide), fun z1 e1 => ⟨vp_in_nI (by omega) (by decide), fun z2 e2 => ?_⟩⟩
      rw [nI_clamp (by omega)] at e1 e2
      refine h z2 (by rw [e2, e1]; exact ((frM.rf z).row _ _ (by omega) (by omega)).row _ _ (by omega) (by omega)) (by rw [e2, e1, mw_n _ _ _ (by decide), mw_n _ _ _ (by decide)]) ?_
      rw [e2, e1]
      unfold RM
      simp only [mw_g, ru_g]
      simp
      refine ⟨fun u hu => ?_, r2, fun u hu => ?_, r4, r5, r6, r7, r8, r9⟩
      · by_cases e : u = t
        · simp [e]
        · simp [e, r1 u hu]
      · by_cases e : u = t
        · simp [e]
        · simp [e, r3 u hu]
  refine ⟨vp_in_nI (by omega) (by decide), sM_up hL hA ht _ ?_⟩
  unfold aLast at b24
  by_cases w : A 3 (4 * t + 1) = 0
  · simp only [if_pos w] at b24 ⊢
    rw [hL.1, nI_m1 (by omega)]
    exact ⟨fun d => absurd d (by decide), fun _ => b24⟩
  · simp only [if_neg w] at b24 ⊢
    exact ⟨fun _ => b24, fun d => absurd trivial d⟩
set_option maxHeartbeats 4000000 in
theorem sM_run {z : MX} {A : AL} (hL : LM z A) (hA : ROK A) (post : MX → Prop) (h : ∀ z1, frM z z1 → RM z1 (aTr A 120) → (∀ m t, m < 120 → t < A 0 1 → z1.1 13 (4 * m + t) = aTr A (m + 1) 0 t) → post z1) : pX8_run z post := by
  have hT := hA.2.2.1
  intro z1 e1 z2 e2 z3 e3 z4 e4 z5 e5 z6 e6
  have f6 : frM z z6 := by
    rw [e6, e5, e4, e3, e2, e1]
    exact ((((((frM.rf z).fld _ (by omega) (by omega)).fld _ (by omega) (by omega)).fld _ (by omega) (by omega)).fld _ (by omega) (by omega)).fld _ (by omega) (by omega)).fld _ (by omega) (by omega)
  have s6 : z6.1 0 30 = -4 ∧ z6.1 0 31 = -4 ∧ z6.1 0 32 = -4 ∧ z6.1 0 33 = 0 ∧ z6.1 0 34 = 0 ∧ z6.1 0 35 = 0 := by
    rw [e6, e5, e4, e3, e2, e1]
    simp only [mw_g]
    simp
  -- a minute
  have k141 : ∀ (rec78 : MX → Int32 → Prop) (r : RS) (m : Nat) (y : MX), m < 120 → frM z y → RM y r → (∀ z8, frM z z8 → RM z8 r → (∀ t, t < A 0 1 → z8.1 13 (4 * m + t) = r 0 t) → (∀ q, q < 4 * m → z8.1 13 q = y.1 13 q) → rec78 z8 (nI (m + 1))) → ∀ k j z7, j + k = A 0 1 → frM z z7 → RM z7 r → (∀ t, t < j → z7.1 13 (4 * m + t) = r 0 t) → (∀ q, q < 4 * m → z7.1 13 q = y.1 13 q) → pX8_run_L141 rec78 post (k + 1) z7 (nI m) (nI j) := by
    intro rec78 r m y hm fy qy hr k
    induction k with
    | zero =>
      intro j z7 hj f7 q7 d7 u7
      show pX8_run_l141 rec78 _ post z7 (nI m) (nI j)
      unfold pX8_run_l141
      rw [(hL.fr f7).2.1]
      refine ⟨fun _ x hx => ?_, fun c => absurd (nI_le (by omega) (by omega)) c⟩
      rw [hx, nI_1]
      have ej : j = A 0 1 := by omega
      rw [ej] at d7
      exact hr z7 f7 q7 d7 u7
    | succ k ih =>
      intro j z7 hj f7 q7 d7 u7
      show pX8_run_l141 rec78 _ post z7 (nI m) (nI j)
      unfold pX8_run_l141
      have ex : (4 : Int32) * nI m + nI j = nI (4 * m + j) := by rw [show (4 : Int32) = nI 4 from rfl, pk_mul, nI_add]
      rw [(hL.fr f7).2.1, ex, nI_clamp (n := 4 * m + j) (by omega), nI_clamp (n := j) (by omega)]
      refine ⟨fun c => absurd c (nI_ge (by omega) (by omega)), fun _ => ⟨vp_in_nI (by omega) (by decide), vp_in_nI (by omega) (by decide), fun z8 e8 x hx => ?_⟩⟩
      rw [hx, nI_1]
      refine ih (j + 1) z8 (by omega) (by rw [e8]; exact f7.row _ _ (by omega) (by omega)) ?_ (fun t ht => ?_) (fun q hq => ?_)
      · rw [e8]
        unfold RM at q7 ⊢
        simp only [mw_g]
        simpa using q7
      · rw [e8, mw_g]
        by_cases e : t = j
        · rw [e]
          simp
          exact q7.1 j (by omega)
        · rw [if_neg (by omega)]
          exact d7 t (by omega)
      · rw [e8, mw_g, if_neg (by omega)]
        exact u7 q hq
  have k86 : ∀ (rec78 : MX → Int32 → Prop) (m : Nat) (y : MX), m < 120 → frM z y → RM y (aTr A m) → (∀ z8, frM z z8 → RM z8 (aTr A (m + 1)) → (∀ t, t < A 0 1 → z8.1 13 (4 * m + t) = aTr A (m + 1) 0 t) → (∀ q, q < 4 * m → z8.1 13 q = y.1 13 q) → rec78 z8 (nI (m + 1))) → ∀ k j z7, j + k = A 0 1 → frM z z7 → RM z7 (aMin A m j (aTr A m)) → z7.1 13 = y.1 13 → pX8_run_L86 rec78 post (k + 1) z7 (nI m) (nI j) := by
    intro rec78 m y hm fy qy hr k
    induction k with
    | zero =>
      intro j z7 hj f7 q7 u7
      show pX8_run_l86 rec78 _ post z7 (nI m) (nI j)
      unfold pX8_run_l86
      rw [(hL.fr f7).2.1]
      have ej : j = A 0 1 := by omega
      rw [ej] at q7
      exact ⟨fun _ => ⟨A 0 1 + 1, k141 rec78 (aTr A (m + 1)) m z7 hm f7 q7 (fun z8 a1 a2 a3 a4 => hr z8 a1 a2 a3 (fun q hq => (a4 q hq).trans (by rw [u7]))) (A 0 1) 0 z7 (by omega) f7 q7 (fun t ht => absurd ht (by omega)) (fun _ _ => rfl)⟩, fun c => absurd (nI_le (by omega) (by omega)) c⟩
    | succ k ih =>
      intro j z7 hj f7 q7 u7
      show pX8_run_l86 rec78 _ post z7 (nI m) (nI j)
      unfold pX8_run_l86
      have hL7 := hL.fr f7
      have e17 : (17 : Int32) + nI j = nI (17 + j) := by rw [show (17 : Int32) = nI 17 from rfl, nI_add]
      have v := hL7.2.2.2.2.2.2.1 j 2 (by omega) (by decide)
      rw [show 9 + 4 * 2 + j = 17 + j by omega] at v
      have hs := (hA.2.2.2.2 j (by omega)).2.2.1
      rw [hL7.2.1, q7.2.2.2.1, e17, nI_clamp (n := j) (by omega), nI_clamp (n := 17 + j) (by omega), q7.2.2.1 j (by omega), v]
      have go : ∀ z8, frM z z8 → RM z8 (aMin A m (j + 1) (aTr A m)) → z8.1 13 = y.1 13 → pX8_run_b133 rec78 (pX8_run_L86 rec78 post (k + 1)) post z8 (nI m) (nI j) := by
        intro z8 f8 q8 u8 x hx
        rw [hx, nI_1]
        exact ih (j + 1) z8 (by omega) f8 q8 u8
      refine ⟨fun c => absurd c (nI_ge (by omega) (by omega)), fun _ => ⟨fun c => ?_, fun c => ⟨vp_in_nI (by omega) (by decide), fun d => ?_, fun d => ⟨vp_in_nI (by omega) (by decide), fun g => ?_, fun g => ?_⟩⟩⟩⟩
      · refine go z7 f7 ?_ u7
        rw [aMin_s, if_neg (fun q => c q.1)]
        exact q7
      · refine go z7 f7 ?_ u7
        rw [aMin_s, if_neg (fun q => d q.2.1)]
        exact q7
      · have g' := (nI_ltI (by omega) (by omega)).mp g
        refine go z7 f7 ?_ u7
        rw [aMin_s, if_neg (by omega)]
        exact q7
      · have g' : ¬ m < A 3 (4 * j + 2) := fun q => g (nI_lt q (by omega))
        refine sM_step hL7 hA q7 (Iv_min hA (Iv_tr hA m) m j (by omega)) (Dj_min hA (Iv_tr hA m) (Dj_tr hA m) m j (by omega)) (by omega) m _ (fun z8 f8 u8 q8 => ?_)
        refine go z8 (f7.tr f8) ?_ (u8.trans u7)
        rw [aMin_s, if_pos ⟨c, d, by omega⟩]
        exact q8
  have k78 : ∀ k m z7, m + k = 120 → frM z z7 → RM z7 (aTr A m) → (∀ n t, n < m → t < A 0 1 → z7.1 13 (4 * n + t) = aTr A (n + 1) 0 t) → pX8_run_L78 post (k + 1) z7 (nI m) := by
    intro k
    induction k with
    | zero =>
      intro m z7 hm f7 q7 d7
      show pX8_run_l78 _ post z7 (nI m)
      unfold pX8_run_l78
      have em : m = 120 := by omega
      subst em
      exact ⟨fun _ => h z7 f7 q7 d7, fun c => absurd (nI_lt (a := 119) (b := 120) (by omega) (by decide)) c⟩
    | succ k ih =>
      intro m z7 hm f7 q7 d7
      show pX8_run_l78 _ post z7 (nI m)
      unfold pX8_run_l78
      refine ⟨fun c => absurd c (nI_nlt (a := 119) (b := m) (by omega) (by decide)), fun _ => ⟨A 0 1 + 1, k86 _ m z7 (by omega) f7 q7 (fun z8 f8 q8 d8 u8 => ?_) (A 0 1) 0 z7 (by omega) f7 q7 rfl⟩⟩
      refine ih (m + 1) z8 (by omega) f8 q8 (fun n t hn ht => ?_)
      by_cases e : n = m
      · subst e
        exact d8 t ht
      · rw [u8 _ (by omega)]
        exact d7 n t (by omega) ht
  have k35 : ∀ k j z7, j + k = 4 → frM z z7 → (z7.1 0 30 = -4 ∧ z7.1 0 31 = -4 ∧ z7.1 0 32 = -4 ∧ z7.1 0 33 = 0 ∧ z7.1 0 34 = 0 ∧ z7.1 0 35 = 0) → (∀ t, t < j → z7.1 9 t = -4 ∧ z7.1 11 t = 0 ∧ z7.1 12 t = -4) → pX8_run_L35 post (k + 1) z7 (nI j) := by
    intro k
    induction k with
    | zero =>
      intro j z7 hj f7 s7 d7
      show pX8_run_l35 _ post z7 (nI j)
      unfold pX8_run_l35
      have ej : j = 4 := by omega
      subst ej
      refine ⟨fun _ => ⟨121, k78 120 0 z7 (by omega) f7 ?_ (fun n t hn => absurd hn (by omega))⟩, fun c => absurd (nI_le (Nat.le_refl 4) (by decide)) c⟩
      obtain ⟨s1, s2, s3, s4, s5, s6⟩ := s7
      show RM z7 aBeg
      unfold RM aBeg
      simp
      exact ⟨fun t ht => (d7 t ht).1, fun t ht => (d7 t ht).2.1, fun t ht => (d7 t ht).2.2, s1, s2, s3, s4, s5, s6⟩
    | succ k ih =>
      intro j z7 hj f7 s7 d7
      show pX8_run_l35 _ post z7 (nI j)
      unfold pX8_run_l35
      rw [nI_clamp (by omega)]
      refine ⟨fun c => absurd c (nI_ge (a := j) (b := 4) (by omega) (by decide)), fun _ => ⟨vp_in_nI (by omega) (by decide), fun y1 g1 => ⟨vp_in_nI (by omega) (by decide), fun y2 g2 => ⟨vp_in_nI (by omega) (by decide), Or.inl rfl, fun y3 g3 => ⟨vp_in_nI (by omega) (by decide), fun y4 g4 x hx => ?_⟩⟩⟩⟩⟩
      rw [hx, nI_1]
      refine ih (j + 1) y4 (by omega) (by rw [g4, g3, g2, g1]; exact (((f7.row _ _ (by omega) (by omega)).row _ _ (by omega) (by omega)).row _ _ (by omega) (by omega)).row _ _ (by omega) (by omega)) ?_ (fun t ht => ?_)
      · rw [g4, g3, g2, g1]
        simp only [mw_g]
        simpa using s7
      · rw [g4, g3, g2, g1]
        simp only [mw_g]
        by_cases e : t = j
        · simp [e]
        · simp [e]
          exact d7 t (by omega)
  exact ⟨5, k35 4 0 z6 (by omega) f6 s6 (fun t ht => absurd ht (by omega))⟩
theorem sM_homeMany {z : MX} {A : AL} (hL : LM z A) (hA : ROK A) {r : RS} (hR : RM z r) (post : Int32 → MX → Prop) (h : post (nI (A 0 1 - cO r (A 0 1))) z) : pX8_homeMany z post := by
  have hT := hA.2.2.1
  have key : ∀ k j, j + k = A 0 1 → pX8_homeMany_L4 post (k + 1) z (nI (j - cO r j)) (nI j) := by
    intro k
    induction k with
    | zero =>
      intro j hj
      show pX8_homeMany_l4 _ post z _ (nI j)
      unfold pX8_homeMany_l4
      rw [hL.2.1]
      have ej : j = A 0 1 := by omega
      rw [ej]
      exact ⟨fun _ => h, fun c => absurd (nI_le (by omega) (by omega)) c⟩
    | succ k ih =>
      intro j hj
      show pX8_homeMany_l4 _ post z _ (nI j)
      unfold pX8_homeMany_l4
      have hc := cO_le r j
      rw [hL.2.1, nI_clamp (by omega), hR.2.2.1 j (by omega)]
      refine ⟨fun c => absurd c (nI_ge (by omega) (by omega)), fun _ => ⟨vp_in_nI (by omega) (by decide), fun c => ?_, fun c => ?_⟩⟩
      · intro x hx y hy
        rw [hx, hy, nI_1, Int32.add_zero]
        have := ih (j + 1) (by omega)
        rw [cO_s, if_pos c, show j + 1 - (cO r j + 1) = j - cO r j by omega] at this
        exact this
      · intro x hx y hy
        rw [hx, hy, nI_1, nI_1]
        have := ih (j + 1) (by omega)
        rw [cO_s, if_neg c, show j + 1 - (cO r j + 0) = j - cO r j + 1 by omega] at this
        exact this
  exact ⟨A 0 1 + 1, key (A 0 1) 0 (by omega)⟩
theorem sM_cost {z : MX} {A : AL} (hL : LM z A) (hA : ROK A) {r : RS} (hR : RM z r) (post : Int32 → MX → Prop) (h : post (aCost A r (A 0 1)) z) : pX8_cost z post := by
  have hT := hA.2.2.1
  have key : ∀ k j, j + k = A 0 1 → pX8_cost_L4 post (k + 1) z (aCost A r j) (nI j) := by
    intro k
    induction k with
    | zero =>
      intro j hj
      show pX8_cost_l4 _ post z _ (nI j)
      unfold pX8_cost_l4
      rw [hL.2.1]
      have ej : j = A 0 1 := by omega
      rw [ej]
      exact ⟨fun _ => h, fun c => absurd (nI_le (by omega) (by omega)) c⟩
    | succ k ih =>
      intro j hj
      show pX8_cost_l4 _ post z _ (nI j)
      have b35 : ∀ v, v = (if r 2 j = -4 then 120 else r 2 j) → pX8_cost_b35 (pX8_cost_L4 post (k + 1)) post z (nI j) (aCost A r j) v := by
        intro v hv
        unfold pX8_cost_b35
        have e21 : (21 : Int32) + nI j = nI (21 + j) := by rw [show (21 : Int32) = nI 21 from rfl, nI_add]
        have w := hL.2.2.2.2.2.2.1 j 3 (by omega) (by decide)
        rw [show 9 + 4 * 3 + j = 21 + j by omega] at w
        rw [e21, nI_clamp (by omega), w]
        refine ⟨vp_in_nI (by omega) (by decide), fun x hx y hy => ?_⟩
        rw [hx, hy, nI_1, hv]
        exact ih (j + 1) (by omega)
      unfold pX8_cost_l4
      rw [hL.2.1, nI_clamp (by omega), hR.2.2.1 j (by omega)]
      exact ⟨fun c => absurd c (nI_ge (by omega) (by omega)), fun _ => ⟨vp_in_nI (by omega) (by decide), fun c => ⟨vp_in_nI (by omega) (by decide), b35 _ (by rw [if_neg c])⟩, fun c => b35 _ (by rw [if_pos c])⟩⟩
  exact ⟨A 0 1 + 1, key (A 0 1) 0 (by omega)⟩
