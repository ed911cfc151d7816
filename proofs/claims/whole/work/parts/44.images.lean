/-! keep, back, count -/
theorem Rel.lines {zx zm zx1 zm1 : MX} (h : Rel zx zm) {A2 : AL} (a : AOK A2) (b : LX 0 zx1 A2) (c : LM zm1 A2) (d : ImgR A2 zx1 zm1) (hx : ∀ c, 16 ≤ c ∧ c ≤ 25 ∨ 33 ≤ c ∧ c ≤ 38 → zx1.1 c = zx.1 c) (hm1 : ∀ c, 6 ≤ c ∧ c ≤ 8 ∨ c = 14 ∨ 17 ≤ c ∧ c ≤ 19 → zm1.1 c = zm.1 c) (hm2 : ∀ k, k = 15 ∨ k = 16 ∨ k = 37 ∨ k = 44 → zm1.1 0 k = zm.1 0 k) : Rel zx1 zm1 := by
  obtain ⟨A, _, _, _, _, e, f, g, i, j, k⟩ := h
  refine ⟨A2, a, b, c, d, e.e (by rw [hx 24 (by omega)]) (hx 25 (by omega)) (hm2 15 (by omega)) (hm1 6 (by omega)), f.e (by rw [hx 33 (by omega)]) (fun c _ _ => hx c (by omega)) (hm2 37 (by omega)) (hm1 14 (by omega)), g.e (fun c _ _ => hx c (by omega)) (fun c _ _ => hm1 c (by omega)), i.e (hm1 7 (by omega)) (hm1 8 (by omega)), ?_, ?_⟩
  · rw [hx 38 (by omega), hm2 16 (by omega)]; exact j
  · rw [hx 38 (by omega), hm2 44 (by omega)]; exact k
theorem LM.pg {z z1 : MX} {A : AL} (h : LM z A) (hT : A 0 1 ≤ 4) (h0 : z1.1 0 = z.1 0) (h2 : z1.1 2 = z.1 2) (h3 : z1.1 3 = z.1 3) (h1 : ∀ k, k < 25 → z1.1 1 k = z.1 1 k) : LM z1 A := by
  obtain ⟨l1, l2, l3, l4, l5, l6, l7, l8⟩ := h
  exact ⟨by rw [h0]; exact l1, by rw [h0]; exact l2, by rw [h0]; exact l3, by rw [h1 8 (by omega)]; exact l4, fun b hb => by rw [h1 b (by omega)]; exact l5 b hb, by rw [h2]; exact l6, fun t w ht hw => by rw [h1 _ (by omega)]; exact l7 t w ht hw, by rw [h3]; exact l8⟩
theorem mk25 {y : Nat} (hy : y < 2) : (25 : Int32) * (nI y + (1 : Int32)) = nI (25 * (y + 1)) := by rw [nI_1, show (25 : Int32) = nI 25 from rfl, pk_mul]
set_option maxHeartbeats 2000000 in
theorem q_keep {zx zm : MX} (h : Rel zx zm) (x : Int32) : pX7_keep zx x (fun r zx1 => pX8_keep zm x (fun r2 zm1 => r = r2 ∧ Rel zx1 zm1)) := by
  have h0 := h
  obtain ⟨A, a, b, c, d, e, f, g, i, j, k⟩ := h
  have hT := a.2.2.1
  unfold pX7_keep pX8_keep
  rcases ix x (n := 2) (by decide) with hx | ⟨y, hy, rfl⟩
  · have bad : ∀ p : Int32 → MX → Prop, p 0 zm → pX8_in zm x.toInt64 0 1 p := fun p hp => cInN zm 1 (by decide) (by decide) hx hp
    refine ⟨fun _ => bad _ ⟨fun q => absurd rfl q, fun _ => ⟨rfl, h0⟩⟩, fun q1 => ⟨fun q2 => ?_, fun _ => bad _ ⟨fun q => absurd rfl q, fun _ => ⟨rfl, h0⟩⟩⟩⟩
    rw [show nI 2 = (2 : Int32) from rfl] at hx
    grind
  · obtain ⟨i1, i2⟩ := d y hy
    rw [nI_clamp (by omega), i1]
    refine ⟨fun q => absurd q (nI_pos (by omega)), fun _ => ⟨fun _ => ⟨vp_in_nI (by omega) (by decide), ?_⟩, fun q => absurd (nI_lt (a := y) (b := 2) hy (by decide)) q⟩⟩
    have body : ∀ v : Int32, (zm.1 16 y = 0 → v = 0) → (¬ zm.1 16 y = 0 → v = 1) → pX7_keep_b25 (fun r zx1 => pX8_in zm (Int32.toInt64 (nI y)) (0 : Int64) (1 : Int64) (fun (r4 : Int32) (z4 : MX) => ((¬ r4 = 0 → pX8_copies z4 (0 : Int32) ((25 : Int32) * (nI y + (1 : Int32))) (fun (z20 : MX) => vp_in (nI y) 2 ∧ (((z20.1 16 y) = 0 → pX8_keep_b37 (fun r2 zm1 => r = r2 ∧ Rel zx1 zm1) z20 (nI y) (0 : Int32)) ∧ (¬ (z20.1 16 y) = 0 → pX8_keep_b37 (fun r2 zm1 => r = r2 ∧ Rel zx1 zm1) z20 (nI y) (1 : Int32))))) ∧ (r4 = 0 → r = (-1 : Int32) ∧ Rel zx1 z4)))) zx (nI y) v := by
      intro v v0 v1
      unfold pX7_keep_b25
      rw [nI_clamp (by omega)]
      refine ⟨vp_in_nI (by omega) (by decide), sX_copy (by omega) b a.2.2.2.1 hT _ (fun z1 f1 q1 => ⟨vp_in_nI (by omega) (by decide), Or.inr rfl, fun z2 e2 => ?_⟩)⟩
      refine cInY zm 1 (by decide) (by decide) (by omega) ⟨fun _ => ?_, fun q => absurd q (by decide)⟩
      rw [mk25 hy]
      refine sM_copies (p := 0) (by omega) (by omega) (by omega) _ (fun y1 m1 m2 m3 => ⟨vp_in_nI (by omega) (by decide), ?_⟩)
      have fin : ∀ y2, y2 = mw y1 16 y 1 → Rel z2 y2 := by
        intro y2 g2
        have cx : ∀ c, c < 4 * (2 + y) ∨ 4 * (2 + y) + 3 < c → c ≠ 40 → z2.1 c = zx.1 c := fun c h1 h2 => by rw [e2, mw_n _ _ _ h2]; exact f1.1 c h1
        have cm : ∀ c, c ≠ 1 → c ≠ 16 → y2.1 c = zm.1 c := fun c h1 h2 => by rw [g2, mw_n _ _ _ h2]; exact m1 c h1
        have c1 : y2.1 1 = y1.1 1 := by rw [g2, mw_n _ _ _ (by decide)]
        refine h0.lines a (b.cells (fun c _ _ => cx c (by omega) (by omega))) (c.pg hT (cm 0 (by decide) (by decide)) (cm 2 (by decide) (by decide)) (cm 3 (by decide) (by decide)) (fun k hk => by rw [c1, m3, if_neg (by omega)])) ?_ (fun c hc => cx c (by omega) (by omega)) (fun c hc => cm c (by omega) (by omega)) (fun k _ => by rw [cm 0 (by decide) (by decide)])
        intro k hk
        by_cases ek : k = y
        · subst ek
          refine ⟨by rw [e2, g2, mw_s, mw_s], Or.inr ⟨by rw [g2, mw_s], A, a, ⟨rfl, rfl, rfl, rfl⟩, ?_, ?_⟩⟩
          · exact q1.cells (fun c h1 h2 => by rw [e2, mw_n _ _ _ (by omega)])
          · obtain ⟨l1, l2, l3, l4, l5, l6, l7, l8⟩ := c
            have pv : ∀ j, j < 25 → y2.1 1 (25 * (k + 1) + j) = zm.1 1 j := fun j hj => by rw [c1, m3, if_pos (by omega), show 0 + (25 * (k + 1) + j - 25 * (k + 1)) = j by omega]
            refine ⟨by rw [pv 8 (by omega)]; exact l4, fun b hb => by rw [pv b (by omega)]; exact l5 b hb, fun t w ht hw => ?_⟩
            rw [show 25 * (k + 1) + 9 + 4 * w + t = 25 * (k + 1) + (9 + 4 * w + t) by omega, pv _ (by omega)]
            exact l7 t w ht hw
        · obtain ⟨u1, u2⟩ := d k hk
          have e40 : z2.1 40 k = zx.1 40 k := by rw [e2, mw_k _ _ ek, f1.1 40 (by omega)]
          have e16 : y2.1 16 k = zm.1 16 k := by rw [g2, mw_k _ _ ek, m1 16 (by decide)]
          rw [e40, e16]
          refine ⟨u1, u2.imp id (fun ⟨u3, A2, a1, a2, a3, a4⟩ => ⟨u3, A2, a1, a2, a3.cells (fun c h1 h2 => cx c (by omega) (by omega)), ?_⟩)⟩
          have hT2 := a1.2.2.1
          have pv : ∀ j, j < 25 → y2.1 1 (25 * (k + 1) + j) = zm.1 1 (25 * (k + 1) + j) := fun j hj => by rw [c1, m3, if_neg (by omega)]
          refine ⟨by rw [pv 8 (by omega)]; exact a4.1, fun b hb => by rw [pv b (by omega)]; exact a4.2.1 b hb, fun t w ht hw => ?_⟩
          have := a4.2.2 t w ht hw
          rw [show 25 * (k + 1) + 9 + 4 * w + t = 25 * (k + 1) + (9 + 4 * w + t) by omega] at this ⊢
          rw [pv _ (by omega)]
          exact this
      have e16 : y1.1 16 = zm.1 16 := m1 16 (by decide)
      unfold pX8_keep_b37
      rw [e16, nI_clamp (by omega)]
      exact ⟨fun w => ⟨vp_in_nI (by omega) (by decide), Or.inr rfl, fun y2 g2 => ⟨v0 w, fin y2 g2⟩⟩, fun w => ⟨vp_in_nI (by omega) (by decide), Or.inr rfl, fun y2 g2 => ⟨v1 w, fin y2 g2⟩⟩⟩
    exact ⟨fun w => body 0 (fun _ => rfl) (fun q => absurd w q), fun w => body 1 (fun q => absurd q w) (fun _ => rfl)⟩
set_option maxHeartbeats 2000000 in
theorem q_back {zx zm : MX} (h : Rel zx zm) (x : Int32) : pX7_back zx x (fun r zx1 => pX8_back zm x (fun r2 zm1 => r = r2 ∧ Rel zx1 zm1)) := by
  have h0 := h
  obtain ⟨A, a, b, c, d, e, f, g, i, j, k⟩ := h
  have hT := a.2.2.1
  unfold pX7_back pX8_back
  rcases ix x (n := 2) (by decide) with hx | ⟨y, hy, rfl⟩
  · have bad : ∀ p : Int32 → MX → Prop, p 0 zm → pX8_in zm x.toInt64 0 1 p := fun p hp => cInN zm 1 (by decide) (by decide) hx hp
    refine ⟨fun _ => bad _ ⟨fun q => absurd rfl q, fun _ => ⟨rfl, h0⟩⟩, fun q1 => ⟨fun q2 => ?_, fun _ => bad _ ⟨fun q => absurd rfl q, fun _ => ⟨rfl, h0⟩⟩⟩⟩
    rw [show nI 2 = (2 : Int32) from rfl] at hx
    grind
  · obtain ⟨i1, i2⟩ := d y hy
    rw [nI_clamp (by omega), i1]
    refine ⟨fun q => absurd q (nI_pos (by omega)), fun _ => ⟨fun _ => ⟨vp_in_nI (by omega) (by decide), fun w => ⟨vp_in_nI (by omega) (by decide), ?_⟩, fun w => cInY zm 1 (by decide) (by decide) (by omega) ⟨fun _ => ⟨vp_in_nI (by omega) (by decide), fun w2 => absurd w w2, fun _ => ⟨rfl, h0⟩⟩, fun q => absurd q (by decide)⟩⟩, fun q => absurd (nI_lt (a := y) (b := 2) hy (by decide)) q⟩⟩
    rcases i2 with i2 | ⟨_, A2, a1, a2, a3, a4⟩
    · exact absurd i2 w
    have hT2 := a1.2.2.1
    have hO : obN (A2 1) 8 < 256 := obN_lt _ 8
    refine sX_copy (by omega) a3 a1.2.2.2.1 hT2 _ (fun z1 f1 q1 => sX_omenBits q1.2.2.2.2.1 a1.2.2.2.2.2.1 _ (sX_bits hO _ (cInY zm 1 (by decide) (by decide) (by omega) ⟨fun _ => ⟨vp_in_nI (by omega) (by decide), fun _ => ?_, fun w2 => absurd w2 w⟩, fun q => absurd q (by decide)⟩)))
    rw [mk25 hy]
    refine sM_copies (q := 0) (by omega) (by omega) (by omega) _ (fun y1 m1 m2 m3 => ?_)
    have pv : ∀ j, j < 25 → y1.1 1 j = zm.1 1 (25 * (y + 1) + j) := fun j hj => by rw [m3, if_pos (by omega), show j - 0 = j by omega]
    have po : ∀ j, 25 ≤ j → y1.1 1 j = zm.1 1 j := fun j hj => by rw [m3, if_neg (by omega)]
    obtain ⟨s1, s2, s3, s4⟩ := a2
    have c1 : LM y1 A2 := by
      obtain ⟨l1, l2, l3, l4, l5, l6, l7, l8⟩ := c
      refine ⟨by rw [m1 0 (by decide), s1]; exact l1, by rw [m1 0 (by decide), s2]; exact l2, by rw [m1 0 (by decide), s3]; exact l3, by rw [pv 8 (by omega)]; exact a4.1, fun b hb => by rw [pv b (by omega)]; exact a4.2.1 b hb, by rw [m1 2 (by decide), s3, s4]; exact l6, fun t w ht hw => ?_, by rw [m1 3 (by decide)]; exact l8⟩
      rw [pv _ (by omega)]
      have := a4.2.2 t w ht hw
      rw [show 25 * (y + 1) + 9 + 4 * w + t = 25 * (y + 1) + (9 + 4 * w + t) by omega] at this
      exact this
    refine sM_omens c1 a1 _ (sM_bits hO _ ⟨rfl, h0.lines a1 q1 c1 ?_ (fun c hc => f1.1 c (by omega)) (fun c hc => m1 c (by omega)) (fun k _ => by rw [m1 0 (by decide)])⟩)
    intro k hk
    obtain ⟨u1, u2⟩ := d k hk
    rw [f1.1 40 (by omega), m1 16 (by decide)]
    refine ⟨u1, u2.imp id (fun ⟨u3, A3, b1, b2, b3, b4⟩ => ⟨u3, A3, b1, ?_, b3.fr f1 (by omega), ?_⟩)⟩
    · obtain ⟨t1, t2, t3, t4⟩ := b2
      exact ⟨by rw [t1, s1], by rw [t2, s2], by rw [t3, s3], by rw [t4, s4]⟩
    · have hT3 := b1.2.2.1
      exact ⟨by rw [po _ (by omega)]; exact b4.1, fun b hb => by rw [po _ (by omega)]; exact b4.2.1 b hb, fun t w ht hw => by rw [po _ (by omega)]; exact b4.2.2 t w ht hw⟩
def wsF (A : AL) : Nat → Int32
  | 0 => 0
  | t + 1 => wsF A t + nI (A 3 (4 * t + 3))
theorem aw_s (post : Int32 → MX → Prop) (n : Nat) : pX0_allWorths_L4 0 post (n + 1) = pX0_allWorths_l4 0 (pX0_allWorths_L4 0 post n) post := rfl
theorem ct_s (post : Int32 → MX → Prop) (n : Nat) : pX8_count_L4 post (n + 1) = pX8_count_l4 (pX8_count_L4 post n) post := rfl
theorem sX_worths {z : MX} {A : AL} (hL : LX 0 z A) (hT : A 0 1 ≤ 4) (post : Int32 → MX → Prop) (h : post (wsF A (A 0 1)) z) : pX0_allWorths 0 z post := by
  have key : ∀ n t, t + n = A 0 1 → pX0_allWorths_L4 0 post (n + 1) z (wsF A t) (nI t) := by
    intro n
    induction n with
    | zero =>
      intro t ht
      rw [aw_s]
      unfold pX0_allWorths_l4
      have et : t = A 0 1 := by omega
      rw [hL.2.2.2.1, et]
      exact ⟨fun _ => h, fun c => absurd (nI_le (Nat.le_refl _) (by omega)) c⟩
    | succ n ih =>
      intro t ht
      rw [aw_s]
      unfold pX0_allWorths_l4
      rw [hL.2.2.2.1]
      refine ⟨fun c => absurd c (nI_ge (by omega) (by omega)), fun _ => s_fact hL hT (by omega) (w := 3) (by decide) _ (fun x hx y hy => ?_)⟩
      rw [hx, hy, nI_1]
      exact ih (t + 1) (by omega)
  exact ⟨A 0 1 + 1, key (A 0 1) 0 (by omega)⟩
set_option maxHeartbeats 2000000 in
theorem q_count {zx zm : MX} (h : Rel zx zm) (x : Int32) : pX7_count zx x (fun r zx1 => pX8_count zm x (fun r2 zm1 => r = r2 ∧ Rel zx1 zm1)) := by
  have h0 := h
  obtain ⟨A, a, b, c, d, ⟨tn, e1, e2, e3, e4⟩, ⟨sn, f1, f2, f3, f4⟩, g, i, j, k⟩ := h
  have hT := a.2.2.1
  have hO : obN (A 1) 8 < 256 := obN_lt _ 8
  unfold pX7_count
  -- the reference, for an answer
  have ref : ∀ v : Int32, (x.toInt < 0 ∨ 5 < x.toInt → v = -1) → (x = 0 → v = nI sn) → (x = 1 → v = (if zm.1 16 0 = 0 then 0 else 1) + (if zm.1 16 1 = 0 then 0 else 1)) → (x = 2 → v = nI tn) → (x = 3 → v = (if zm.1 17 0 = -4 then -4 else zm.1 18 0)) → (x = 4 → v = nI (pcN (obN (A 1) 8))) → (x = 5 → v = wsF A (A 0 1)) → pX8_count zm x (fun r2 zm1 => v = r2 ∧ Rel zx zm1) := by
    intro v v0 v1 v2 v3 v4 v5 v6
    have key : ∀ n t, t + n = A 0 1 → pX8_count_L4 (fun r2 zm1 => v = r2 ∧ Rel zx zm1) (n + 1) zm x (wsF A t) (nI t) := by
      intro n
      induction n with
      | zero =>
        intro t ht
        rw [ct_s]
        unfold pX8_count_l4
        have et : t = A 0 1 := by omega
        rw [c.2.1, et]
        refine ⟨fun _ => ⟨fun q => ⟨v0 q, h0⟩, fun q => ⟨by rw [v1 q, f3], h0⟩, fun q => ⟨vp_in_nI (n := 0) (by decide) (by decide), ?_⟩, fun q => ⟨by rw [v3 q, e3], h0⟩, fun q => ⟨vp_in_nI (n := 0) (by decide) (by decide), ?_⟩, fun q => sM_omens c a _ (sM_bits hO _ ⟨v5 q, h0⟩), fun q => ⟨v6 q, h0⟩⟩, fun c => absurd (nI_le (Nat.le_refl _) (by omega)) c⟩
        · have v2 := v2 q
          unfold pX8_count_b87
          rw [show Int32.toNatClampNeg (0 : Int32) = 0 from rfl, show Int32.toNatClampNeg (1 : Int32) = 1 from rfl]
          refine ⟨fun w => ⟨vp_in_nI (n := 1) (by decide) (by decide), fun w2 => ⟨?_, h0⟩, fun w2 => ⟨?_, h0⟩⟩, fun w => ⟨vp_in_nI (n := 1) (by decide) (by decide), fun w2 => ⟨?_, h0⟩, fun w2 => ⟨?_, h0⟩⟩⟩
          · rw [v2, if_pos w, if_pos w2]
          · rw [v2, if_pos w, if_neg w2]
          · rw [v2, if_neg w, if_pos w2]
          · rw [v2, if_neg w, if_neg w2]
        · have v4 := v4 q
          rw [show Int32.toNatClampNeg (0 : Int32) = 0 from rfl]
          refine ⟨fun w => ⟨vp_in_nI (n := 0) (by decide) (by decide), ?_, h0⟩, fun w => ⟨?_, h0⟩⟩
          · rw [v4, if_neg w]
          · rw [v4, if_pos w]
      | succ n ih =>
        intro t ht
        rw [ct_s]
        unfold pX8_count_l4
        have ei : (21 : Int32) + nI t = nI (9 + 4 * 3 + t) := by rw [show (21 : Int32) = nI 21 from rfl, nI_add]
        rw [c.2.1, ei, nI_clamp (by omega), c.2.2.2.2.2.2.1 t 3 (by omega) (by decide)]
        refine ⟨fun c => absurd c (nI_ge (by omega) (by omega)), fun _ => ⟨vp_in_nI (by omega) (by decide), fun u hu y hy => ?_⟩⟩
        rw [hu, hy, nI_1]
        exact ih (t + 1) (by omega)
    exact ⟨A 0 1 + 1, key (A 0 1) 0 (by omega)⟩
  obtain ⟨i10, i20⟩ := d 0 (by decide)
  obtain ⟨i11, i21⟩ := d 1 (by decide)
  have bad : ∀ {v : Int32}, (0 ≤ v ∧ v ≤ 5) → ¬ (v.toInt < 0 ∨ 5 < v.toInt) := by
    intro v hv hw
    have h1 := (fa_le 0 v).mp hv.1
    have h2 := (fa_le v 5).mp hv.2
    have e0 : (0 : Int32).toInt = 0 := rfl
    have e5 : (5 : Int32).toInt = 5 := rfl
    omega
  refine ⟨fun q => ref _ (fun _ => rfl) ?_ ?_ ?_ ?_ ?_ ?_, fun q => ?_, fun q => ?_, fun q => ?_, fun q => ?_, fun q => ?_, fun q => ?_⟩
  · intro e; rw [e] at q; exact absurd q (bad (by decide))
  · intro e; rw [e] at q; exact absurd q (bad (by decide))
  · intro e; rw [e] at q; exact absurd q (bad (by decide))
  · intro e; rw [e] at q; exact absurd q (bad (by decide))
  · intro e; rw [e] at q; exact absurd q (bad (by decide))
  · intro e; rw [e] at q; exact absurd q (bad (by decide))
  · subst q
    exact ref _ (fun q => absurd q (bad (by decide))) (fun _ => f2) (fun q => absurd q (by decide)) (fun q => absurd q (by decide)) (fun q => absurd q (by decide)) (fun q => absurd q (by decide)) (fun q => absurd q (by decide))
  · subst q
    have go : ∀ v : Int32, v = (if zm.1 16 0 = 0 then 0 else 1) + (if zm.1 16 1 = 0 then 0 else 1) → pX8_count zm 1 (fun r2 zm1 => v = r2 ∧ Rel zx zm1) := fun v hv => ref v (fun q => absurd q (bad (by decide))) (fun q => absurd q (by decide)) (fun _ => hv) (fun q => absurd q (by decide)) (fun q => absurd q (by decide)) (fun q => absurd q (by decide)) (fun q => absurd q (by decide))
    unfold pX7_count_b62
    rw [show Int32.toNatClampNeg (0 : Int32) = 0 from rfl, show Int32.toNatClampNeg (1 : Int32) = 1 from rfl, i10, i11]
    refine ⟨vp_in_nI (n := 0) (by decide) (by decide), fun w => ⟨vp_in_nI (n := 1) (by decide) (by decide), fun w2 => go _ ?_, fun w2 => go _ ?_⟩, fun w => ⟨vp_in_nI (n := 1) (by decide) (by decide), fun w2 => go _ ?_, fun w2 => go _ ?_⟩⟩
    · rw [if_pos w, if_pos w2]
    · rw [if_pos w, if_neg w2]
    · rw [if_neg w, if_pos w2]
    · rw [if_neg w, if_neg w2]
  · subst q
    exact ref _ (fun q => absurd q (bad (by decide))) (fun q => absurd q (by decide)) (fun q => absurd q (by decide)) (fun _ => e2) (fun q => absurd q (by decide)) (fun q => absurd q (by decide)) (fun q => absurd q (by decide))
  · subst q
    have go : ∀ v : Int32, v = (if zm.1 17 0 = -4 then -4 else zm.1 18 0) → pX8_count zm 3 (fun r2 zm1 => v = r2 ∧ Rel zx zm1) := fun v hv => ref v (fun q => absurd q (bad (by decide))) (fun q => absurd q (by decide)) (fun q => absurd q (by decide)) (fun q => absurd q (by decide)) (fun _ => hv) (fun q => absurd q (by decide)) (fun q => absurd q (by decide))
    unfold pX3_isNothing
    rw [show Int32.toNatClampNeg (0 : Int32) = 0 from rfl]
    refine ⟨vp_in_nI (n := 0) (by decide) (by decide), ?_⟩
    rcases g 0 (by decide) with ⟨g1, g2⟩ | ⟨l, n, l1, l2, g1, g2, g3, g4, _⟩
    · exact ⟨fun w => absurd g1 w, fun _ => ⟨Or.inr rfl, fun w => absurd w (by decide), fun _ => go _ (by rw [if_pos g2])⟩⟩
    · refine ⟨fun _ => ⟨Or.inl rfl, fun _ => ⟨vp_in_nI (n := 0) (by decide) (by decide), go _ ?_⟩, fun w => absurd rfl w⟩, fun w => absurd (g2.symm.trans w) (nI_neg (by omega) _ (by decide))⟩
      rw [if_neg (by rw [g3]; exact nI_neg (by omega) _ (by decide)), g4]
      exact g2
  · subst q
    exact sX_omenBits b.2.2.2.2.1 a.2.2.2.2.2.1 _ (sX_bits hO _ (ref _ (fun q => absurd q (bad (by decide))) (fun q => absurd q (by decide)) (fun q => absurd q (by decide)) (fun q => absurd q (by decide)) (fun q => absurd q (by decide)) (fun _ => rfl) (fun q => absurd q (by decide))))
  · subst q
    exact sX_worths b hT _ (ref _ (fun q => absurd q (bad (by decide))) (fun q => absurd q (by decide)) (fun q => absurd q (by decide)) (fun q => absurd q (by decide)) (fun q => absurd q (by decide)) (fun q => absurd q (by decide)) (fun _ => rfl))
