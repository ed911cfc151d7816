/-! home, at, bump, sum -/
def Bp (r : RS) : Prop := r 3 0 = -4 → r 3 1 = -4 ∧ r 3 2 = -4
theorem Bp_step {A : AL} {r : RS} (h : Bp r) {t m : Nat} (hm : m < 2 ^ 31) : Bp (aStep A r t m) := by
  have same : ∀ q : RS, (∀ j, j < 3 → q 3 j = r 3 j) → Bp q := fun q e => by
    unfold Bp
    rw [e 0 (by decide), e 1 (by decide), e 2 (by decide)]
    exact h
  unfold aStep
  by_cases l : r 0 t = aLast A t
  · rw [if_pos l]
    exact same _ (fun j hj => by simp only [ru_g]; simp; omega)
  · rw [if_neg l]
    by_cases w : aW A r t ≤ 0
    · rw [if_pos w]
      unfold aEnter
      by_cases o : occF (ru r 1 t (aW A r t) 0) (aNext A t (r 0 t)) 0 (A 0 1) = -4
      · rw [if_pos o]
        exact same _ (fun j hj => by simp only [ru_g]; simp; omega)
      · rw [if_neg o]
        by_cases g : ((nI (A 0 3) >>> (aNext A t (r 0 t) &&& 31)) &&& 1) = 0
        · rw [if_pos g]
          intro q
          simp only [ru_g] at q
          simp at q
          exact absurd q (nI_neg hm _ (by decide))
        · rw [if_neg g]
          exact same _ (fun j hj => by simp only [ru_g]; simp; omega)
    · rw [if_neg w]
      exact same _ (fun j hj => by simp only [ru_g]; simp; omega)
theorem Bp_min {A : AL} {r : RS} (h : Bp r) {m : Nat} (hm : m < 2 ^ 31) : ∀ k, Bp (aMin A m k r) := by
  intro k
  induction k with
  | zero => exact h
  | succ k ih =>
    rw [aMin_s]
    by_cases c : aMin A m k r 3 0 = -4 ∧ aMin A m k r 2 k = -4 ∧ A 3 (4 * k + 2) ≤ m
    · rw [if_pos c]; exact Bp_step ih hm
    · rw [if_neg c]; exact ih
theorem Bp_tr {A : AL} : ∀ m, m < 2 ^ 31 → Bp (aTr A m) := by
  intro m
  induction m with
  | zero =>
    intro _ _
    show aBeg 3 1 = -4 ∧ aBeg 3 2 = -4
    unfold aBeg
    simp
  | succ m ih => intro hm; exact Bp_min (ih (by omega)) (by omega) _
theorem hc_eq {A : AL} (hA : ROK A) : aTr A 120 3 6 = nI (A 0 1 - cO (aTr A 120) (A 0 1)) := by
  have h := Hc_tr (A := A) 120 (by decide)
  unfold Hc at h
  have hc := cO_le (aTr A 120) (A 0 1)
  have e : nI (A 0 1) = nI (A 0 1 - cO (aTr A 120) (A 0 1)) + nI (cO (aTr A 120) (A 0 1)) := by rw [nI_add, Nat.sub_add_cancel hc]
  rw [e] at h
  grind
theorem q_home {zx zm : MX} (h : Rel zx zm) (x : Int32) : pX7_home zx x (fun r zx1 => pX8_home zm x (fun r2 zm1 => r = r2 ∧ Rel zx1 zm1)) := by
  have h0 := h
  obtain ⟨A, a, b, c, d, e, f, g, i, j, k⟩ := h
  have hT := a.2.2.1
  unfold pX7_home pX8_home
  rcases ix x (n := A 0 1) (by omega) with hx | ⟨y, hy, rfl⟩
  · exact sX_trN b hx ⟨fun q => absurd rfl q, fun _ => sM_trN c a hx ⟨fun q => absurd rfl q, fun _ => ⟨rfl, h0⟩⟩⟩
  · refine sX_trY b a hy ⟨fun _ => sX_play (by decide) b a.R _ (fun z1 f1 q1 t1 c1 => ⟨vp_in_nI (by omega) (by decide), ?_⟩), fun q => absurd q (by decide)⟩
    refine sM_trY c a hy ⟨fun _ => sM_run c a.R _ (fun y1 g1 p1 u1 => ⟨vp_in_nI (by omega) (by decide), ?_, h0.N (NX.of f1 (by omega)) (NM.of g1)⟩), fun q => absurd q (by decide)⟩
    rw [nI_clamp (by omega), q1.2.2.1 y (by omega), p1.2.2.1 y (by omega)]
theorem sX_spot {z : MX} {A : AL} (hT : A 0 1 ≤ 4) (h : TX A z) {t m : Nat} (ht : t < A 0 1) (hm : m < 120) {post : Int32 → MX → Prop} (hp : post (aTr A (m + 1) 0 t) z) : pX2_spotBehind z (nI t) (nI m) post := by
  obtain ⟨lm, l1, l2, l3⟩ := h
  unfold pX2_spotBehind
  rw [l2]
  have e : (if nI lm < nI m then nI lm else nI m) = nI (min m lm) := by
    by_cases c : lm < m
    · rw [if_pos (nI_lt c (by omega)), show min m lm = lm by omega]
    · rw [if_neg (nI_nlt (by omega) (by omega)), show min m lm = m by omega]
  have e2 : nI t * (120 : Int32) + nI (min m lm) = nI (t * 120 + min m lm) := by rw [show (120 : Int32) = nI 120 from rfl, pk_mul, nI_add]
  rw [e, e2, nI_clamp (by omega), l3 t m ht hm]
  exact ⟨vp_in_nI (by omega) (by decide), hp⟩
theorem q_at {zx zm : MX} (h : Rel zx zm) (x w : Int32) : pX7_at zx x w (fun r zx1 => pX8_at zm x w (fun r2 zm1 => r = r2 ∧ Rel zx1 zm1)) := by
  have h0 := h
  obtain ⟨A, a, b, c, d, e, f, g, i, j, k⟩ := h
  have hT := a.2.2.1
  unfold pX7_at pX8_at
  rcases ix x (n := A 0 1) (by omega) with hx | ⟨y, hy, rfl⟩
  · exact sX_trN b hx ⟨fun _ => sM_trN c a hx ⟨fun _ => ⟨rfl, h0⟩, fun q => absurd rfl q⟩, fun q => absurd rfl q⟩
  · refine sX_trY b a hy ⟨fun q => absurd q (by decide), fun _ => ?_⟩
    rcases ix w (n := 120) (by decide) with hw | ⟨m, hm, rfl⟩
    · exact cMinuteN hw ⟨fun q => absurd rfl q, fun _ => sM_trY c a hy ⟨fun q => absurd q (by decide), fun _ => cInN zm 119 (by decide) (by decide) hw ⟨fun q => absurd rfl q, fun _ => ⟨rfl, h0⟩⟩⟩⟩
    · refine cMinuteY hm ⟨fun _ => sX_play (by decide) b a.R _ (fun z1 f1 q1 t1 c1 => sX_spot hT t1 hy hm ?_), fun q => absurd q (by decide)⟩
      refine sM_trY c a hy ⟨fun q => absurd q (by decide), fun _ => cInY zm 119 (by decide) (by decide) (by omega) ⟨fun _ => sM_run c a.R _ (fun y1 g1 p1 u1 => ?_), fun q => absurd q (by decide)⟩⟩
      have e2 : (4 : Int32) * nI m + nI y = nI (4 * m + y) := by rw [show (4 : Int32) = nI 4 from rfl, pk_mul, nI_add]
      rw [e2, nI_clamp (by omega), u1 m y hm hy]
      exact ⟨vp_in_nI (by omega) (by decide), rfl, h0.N (NX.of f1 (by omega)) (NM.of g1)⟩
theorem q_bump {zx zm : MX} (h : Rel zx zm) (x : Int32) : pX7_bump zx x (fun r zx1 => pX8_bump zm x (fun r2 zm1 => r = r2 ∧ Rel zx1 zm1)) := by
  have h0 := h
  obtain ⟨A, a, b, c, d, e, f, g, i, j, k⟩ := h
  unfold pX7_bump pX8_bump
  rcases ix x (n := 3) (by decide) with hx | ⟨y, hy, rfl⟩
  · have bad := fun post hp => cInN zm (x := x) 2 (H := 2) (by decide) (by decide) hx (post := post) hp
    refine ⟨fun _ => bad _ ⟨fun q => absurd rfl q, fun _ => ⟨rfl, h0⟩⟩, fun q1 => ⟨fun q2 => ?_, fun _ => bad _ ⟨fun q => absurd rfl q, fun _ => ⟨rfl, h0⟩⟩⟩⟩
    rw [show nI 3 = (3 : Int32) from rfl] at hx
    grind
  · refine ⟨fun q => absurd q (nI_pos (by omega)), fun _ => ⟨fun _ => sX_play (by decide) b a.R _ (fun z1 f1 q1 t1 c1 => ?_), fun q => absurd (nI_le (a := y) (b := 2) (by omega) (by decide)) q⟩⟩
    have hb := Bp_tr (A := A) 120 (by decide)
    have go : ∀ v : Int32, v = aTr A 120 3 y → pX8_in zm (Int32.toInt64 (nI y)) (0 : Int64) (2 : Int64) (fun (r6 : Int32) (z6 : MX) => ((¬ r6 = 0 → pX8_run z6 (fun (z15 : MX) => ((¬ nI y = 0 → ((¬ nI y = (1 : Int32) → v = (z15.1 0 32) ∧ Rel z1 z15) ∧ (nI y = (1 : Int32) → v = (z15.1 0 31) ∧ Rel z1 z15))) ∧ (nI y = 0 → v = (z15.1 0 30) ∧ Rel z1 z15)))) ∧ (r6 = 0 → v = (-1 : Int32) ∧ Rel z1 z6))) := by
      intro v hv
      refine cInY zm 2 (by decide) (by decide) (by omega) ⟨fun _ => sM_run c a.R _ (fun y1 g1 p1 u1 => ?_), fun q => absurd q (by decide)⟩
      have hr := h0.N (NX.of f1 (by omega)) (NM.of g1)
      obtain ⟨p1, p2, p3, p4, p5, p6, p7⟩ := p1
      rw [hv, p4, p5, p6]
      match y, hy with
      | 0, _ => exact ⟨fun q => absurd rfl q, fun _ => ⟨rfl, hr⟩⟩
      | 1, _ => exact ⟨fun _ => ⟨fun q => absurd rfl q, fun _ => ⟨rfl, hr⟩⟩, fun q => absurd q (by decide)⟩
      | 2, _ => exact ⟨fun _ => ⟨fun _ => ⟨rfl, hr⟩, fun q => absurd q (by decide)⟩, fun q => absurd q (by decide)⟩
      | y + 3, hy => exact absurd hy (by omega)
    obtain ⟨r1, r2, r3, r4, r5, r6⟩ := q1
    rw [r4]
    refine ⟨fun q => ?_, fun q => go _ ?_⟩
    · obtain ⟨w1, w2⟩ := r5 q
      rw [w1, w2]
      match y, hy with
      | 0, _ => exact ⟨fun q => absurd rfl q, fun _ => go _ rfl⟩
      | 1, _ => exact ⟨fun _ => ⟨fun q => absurd rfl q, fun _ => go _ rfl⟩, fun q => absurd q (by decide)⟩
      | 2, _ => exact ⟨fun _ => ⟨fun _ => go _ rfl, fun q => absurd q (by decide)⟩, fun q => absurd q (by decide)⟩
      | y + 3, hy => exact absurd hy (by omega)
    · match y, hy with
      | 0, _ => exact q.symm
      | 1, _ => exact (hb q).1.symm
      | 2, _ => exact (hb q).2.symm
      | y + 3, hy => exact absurd hy (by omega)
theorem q_sum {zx zm : MX} (h : Rel zx zm) (x : Int32) : pX7_sum zx x (fun r zx1 => pX8_sum zm x (fun r2 zm1 => r = r2 ∧ Rel zx1 zm1)) := by
  have h0 := h
  obtain ⟨A, a, b, c, d, e, f, g, i, j, k⟩ := h
  unfold pX7_sum pX8_sum
  rcases ix x (n := 5) (by decide) with hx | ⟨y, hy, rfl⟩
  · have bad := fun post hp => cInN zm (x := x) 4 (H := 4) (by decide) (by decide) hx (post := post) hp
    refine ⟨fun _ => bad _ ⟨fun q => absurd rfl q, fun _ => ⟨rfl, h0⟩⟩, fun q1 => ⟨fun q2 => ?_, fun _ => bad _ ⟨fun q => absurd rfl q, fun _ => ⟨rfl, h0⟩⟩⟩⟩
    rw [show nI 5 = (5 : Int32) from rfl] at hx
    grind
  · refine ⟨fun q => absurd q (nI_pos (by omega)), fun _ => ⟨fun _ => sX_play (by decide) b a.R _ (fun z1 f1 q1 t1 c1 => ?_), fun q => absurd (nI_le (a := y) (b := 4) (by omega) (by decide)) q⟩⟩
    have go : ∀ (v : Int32), v = (if y = 0 then aCost A (aTr A 120) (A 0 1) else if y = 1 then aTr A 120 3 6 else if y = 2 then aTr A 120 3 3 else if y = 3 then aTr A 120 3 4 else aTr A 120 3 5) → pX8_in zm (Int32.toInt64 (nI y)) (0 : Int64) (4 : Int64) (fun (r6 : Int32) (z6 : MX) => ((¬ r6 = 0 → pX8_run z6 (fun (z15 : MX) => ((((nI y).toInt < 0 ∨ 3 < (nI y).toInt) → v = (z15.1 0 35) ∧ Rel z1 z15) ∧ (nI y = (0 : Int32) → pX8_cost z15 (fun (r49 : Int32) (z49 : MX) => v = r49 ∧ Rel z1 z49)) ∧ (nI y = (1 : Int32) → pX8_homeMany z15 (fun (r54 : Int32) (z54 : MX) => v = r54 ∧ Rel z1 z54)) ∧ (nI y = (2 : Int32) → v = (z15.1 0 33) ∧ Rel z1 z15) ∧ (nI y = (3 : Int32) → v = (z15.1 0 34) ∧ Rel z1 z15)))) ∧ (r6 = 0 → v = (-1 : Int32) ∧ Rel z1 z6))) := by
      intro v hv
      refine cInY zm 4 (by decide) (by decide) (by omega) ⟨fun _ => sM_run c a.R _ (fun y1 g1 p1 u1 => ?_), fun q => absurd q (by decide)⟩
      have hr := h0.N (NX.of f1 (by omega)) (NM.of g1)
      have hc := fun post hp => sM_cost (c.fr g1) a.R p1 post hp
      have hh := fun post hp => sM_homeMany (c.fr g1) a.R p1 post hp
      obtain ⟨p1, p2, p3, p4, p5, p6, p7, p8, p9⟩ := p1
      rw [hv]
      match y, hy with
      | 0, _ => exact ⟨fun q => absurd q (sw_in (k := 0) (n := 3) (by omega) (by decide)), fun _ => hc _ ⟨rfl, hr⟩, fun q => absurd q (by decide), fun q => absurd q (by decide), fun q => absurd q (by decide)⟩
      | 1, _ => exact ⟨fun q => absurd q (sw_in (k := 1) (n := 3) (by omega) (by decide)), fun q => absurd q (by decide), fun _ => hh _ ⟨hc_eq a.R, hr⟩, fun q => absurd q (by decide), fun q => absurd q (by decide)⟩
      | 2, _ => exact ⟨fun q => absurd q (sw_in (k := 2) (n := 3) (by omega) (by decide)), fun q => absurd q (by decide), fun q => absurd q (by decide), fun _ => ⟨p7.symm, hr⟩, fun q => absurd q (by decide)⟩
      | 3, _ => exact ⟨fun q => absurd q (sw_in (k := 3) (n := 3) (by omega) (by decide)), fun q => absurd q (by decide), fun q => absurd q (by decide), fun q => absurd q (by decide), fun _ => ⟨p8.symm, hr⟩⟩
      | 4, _ => exact ⟨fun _ => ⟨p9.symm, hr⟩, fun q => absurd q (by decide), fun q => absurd q (by decide), fun q => absurd q (by decide), fun q => absurd q (by decide)⟩
      | y + 5, hy => exact absurd hy (by omega)
    obtain ⟨r1, r2, r3, r4, r5, r6, r7, r8, r9⟩ := q1
    rw [c1, r6, r7, r8, r9]
    match y, hy with
    | 0, _ => exact ⟨fun q => absurd q (sw_in (k := 0) (n := 3) (by omega) (by decide)), fun _ => go _ rfl, fun q => absurd q (by decide), fun q => absurd q (by decide), fun q => absurd q (by decide)⟩
    | 1, _ => exact ⟨fun q => absurd q (sw_in (k := 1) (n := 3) (by omega) (by decide)), fun q => absurd q (by decide), fun _ => go _ rfl, fun q => absurd q (by decide), fun q => absurd q (by decide)⟩
    | 2, _ => exact ⟨fun q => absurd q (sw_in (k := 2) (n := 3) (by omega) (by decide)), fun q => absurd q (by decide), fun q => absurd q (by decide), fun _ => go _ rfl, fun q => absurd q (by decide)⟩
    | 3, _ => exact ⟨fun q => absurd q (sw_in (k := 3) (n := 3) (by omega) (by decide)), fun q => absurd q (by decide), fun q => absurd q (by decide), fun q => absurd q (by decide), fun _ => go _ rfl⟩
    | 4, _ => exact ⟨fun _ => go _ rfl, fun q => absurd q (by decide), fun q => absurd q (by decide), fun q => absurd q (by decide), fun q => absurd q (by decide)⟩
    | y + 5, hy => exact absurd hy (by omega)
