/-! see, forget -/
theorem LX.cells {i : Nat} {z z1 : MX} {A : AL} (h : LX i z A) (hc : ∀ c, 4 * i ≤ c → c ≤ 4 * i + 3 → z1.1 c = z.1 c) : LX i z1 A := by
  unfold LX
  rw [hc (4 * i) (by omega) (by omega), hc (4 * i + 1) (by omega) (by omega), hc (4 * i + 2) (by omega) (by omega), hc (4 * i + 3) (by omega) (by omega)]
  exact h
theorem LM.cells {z z1 : MX} {A : AL} (h : LM z A) (h0 : ∀ k, k = 1 ∨ k = 2 ∨ k = 4 → z1.1 0 k = z.1 0 k) (hc : ∀ c, 1 ≤ c → c ≤ 3 → z1.1 c = z.1 c) : LM z1 A := by
  unfold LM
  rw [h0 1 (by omega), h0 2 (by omega), h0 4 (by omega), hc 1 (by omega) (by omega), hc 2 (by omega) (by omega), hc 3 (by omega) (by omega)]
  exact h
/-- what is seen alone has changed -/
theorem Rel.seen {zx zm zx1 zm1 : MX} (h : Rel zx zm) (hx : ∀ c, c < 33 ∨ 36 < c → zx1.1 c = zx.1 c) (hm1 : ∀ c, c ≠ 0 → c ≠ 14 → zm1.1 c = zm.1 c) (hm2 : ∀ k, k ≠ 37 → zm1.1 0 k = zm.1 0 k) (hs : SeenR zx1 zm1) : Rel zx1 zm1 := by
  obtain ⟨A, a, b, c, d, e, f, g, i, j, k⟩ := h
  refine ⟨A, a, b.cells (fun c _ _ => hx c (by omega)), c.cells (fun k hk => hm2 k (by omega)) (fun c _ _ => hm1 c (by omega) (by omega)), d.e (hx 40 (by omega)) (fun c _ _ => hx c (by omega)) (hm1 16 (by omega) (by omega)) (fun k _ _ => by rw [hm1 1 (by decide) (by decide)]), e.e (by rw [hx 24 (by omega)]) (hx 25 (by omega)) (hm2 15 (by decide)) (hm1 6 (by decide) (by decide)), hs, g.e (fun c _ _ => hx c (by omega)) (fun c _ _ => hm1 c (by omega) (by omega)), i.e (hm1 7 (by decide) (by decide)) (hm1 8 (by decide) (by decide)), ?_, ?_⟩
  · rw [hx 38 (by omega), hm2 16 (by decide)]; exact j
  · rw [hx 38 (by omega), hm2 44 (by decide)]; exact k
set_option maxHeartbeats 2000000 in
theorem see_b {zx zm : MX} (h : Rel zx zm) {m : Nat} (hm : m < 120) (t s : Int32) (post2 : Int32 → MX → Prop) (ref : ∀ r zx1, (pX8_see_b36 (fun r2 zm1 => r = r2 ∧ Rel zx1 zm1) zm t (nI m) s) → post2 r zx1) : pX7_see_b37 post2 zx t (nI m) s := by
  have h0 := h
  obtain ⟨A, a, b, c, d, e, ⟨n, n1, n2, n3, n4⟩, g, i, j, k⟩ := h
  unfold pX7_see_b37 pX4_append
  rw [n2]
  refine ⟨fun q => ?_, fun q => ⟨Or.inl rfl, fun _ => ref _ _ ?_, fun q => absurd rfl q⟩⟩
  · have hn := (nI_ltI (a := n) (b := 6) (by omega) (by decide)).mp q
    rw [nI_clamp (by omega)]
    refine ⟨vp_in_nI (by omega) (by decide), fun z1 e1 => ?_⟩
    have u1 : z1.1 33 6 = nI n := by rw [e1, mw_n _ _ _ (by decide)]; exact n2
    rw [u1, nI_clamp (by omega)]
    refine ⟨vp_in_nI (by omega) (by decide), fun z2 e2 => ?_⟩
    have u2 : z2.1 33 6 = nI n := by rw [e2, mw_n _ _ _ (by decide)]; exact u1
    rw [u2, nI_clamp (by omega)]
    refine ⟨vp_in_nI (by omega) (by decide), fun z3 e3 => ?_⟩
    have u3 : z3.1 33 6 = nI n := by rw [e3, mw_n _ _ _ (by decide)]; exact u2
    rw [u3]
    intro z4 e4
    rw [nI_1] at e4
    refine ⟨Or.inr rfl, fun q => absurd q (by decide), fun _ => ref _ _ ?_⟩
    have u4 : z4.1 33 6 = nI (n + 1) := by rw [e4, mw_s]
    unfold pX8_see_b36
    have e3n : (3 : Int32) * nI n = nI (3 * n) := by rw [show (3 : Int32) = nI 3 from rfl, pk_mul]
    rw [n3, e3n, nI_clamp (by omega)]
    refine ⟨fun _ => ⟨vp_in_nI (by omega) (by decide), fun y1 g1 => ?_⟩, fun q => ?_⟩
    · have w1 : y1.1 0 37 = nI n := by rw [g1, mw_n _ _ _ (by decide)]; exact n3
      have e31 : nI (3 * n) + 1 = nI (3 * n + 1) := nI_1 _
      have e32 : nI (3 * n) + 2 = nI (3 * n + 2) := nI_add _ 2
      rw [w1, e3n, e31, nI_clamp (by omega)]
      refine ⟨vp_in_nI (by omega) (by decide), fun y2 g2 => ?_⟩
      have w2 : y2.1 0 37 = nI n := by rw [g2, mw_n _ _ _ (by decide)]; exact w1
      rw [w2, e3n, e32, nI_clamp (by omega)]
      refine ⟨vp_in_nI (by omega) (by decide), fun y3 g3 => ?_⟩
      have w3 : y3.1 0 37 = nI n := by rw [g3, mw_n _ _ _ (by decide)]; exact w2
      rw [w3, nI_1]
      intro y4 g4
      have w4 : y4.1 0 37 = nI (n + 1) := by rw [g4, mw_s]
      refine ⟨by rw [u4, w4], h0.seen (fun c hc => ?_) (fun c h1 h2 => ?_) (fun k hk => ?_) ?_⟩
      · rw [e4, e3, e2, e1, mw_n _ _ _ (by omega), mw_n _ _ _ (by omega), mw_n _ _ _ (by omega), mw_n _ _ _ (by omega)]
      · rw [g4, g3, g2, g1, mw_n _ _ _ (by omega), mw_n _ _ _ (by omega), mw_n _ _ _ (by omega), mw_n _ _ _ (by omega)]
      · rw [g4, mw_k _ _ hk, g3, g2, g1, mw_n _ _ _ (by omega), mw_n _ _ _ (by omega), mw_n _ _ _ (by omega)]
      · refine ⟨n + 1, by omega, u4, w4, fun k hk => ?_⟩
        rw [e4, e3, e2, e1, g4, g3, g2, g1]
        simp only [mw_g]
        by_cases ek : k = n
        · subst ek
          simp
          exact ⟨m, hm, rfl⟩
        · have := n4 k (by omega)
          have q0 : ¬ 3 * k = 3 * n := by omega
          have q1 : ¬ 3 * k = 3 * n + 1 := by omega
          have q2 : ¬ 3 * k = 3 * n + 2 := by omega
          have q3 : ¬ 3 * k + 1 = 3 * n := by omega
          have q4 : ¬ 3 * k + 1 = 3 * n + 2 := by omega
          have q5 : ¬ 3 * k + 2 = 3 * n := by omega
          have q6 : ¬ 3 * k + 2 = 3 * n + 1 := by omega
          simp [ek, q0, q1, q2, q3, q4, q5, q6]
          exact this
    · have := (nI_eq (a := n) (b := 6) (by omega) (by decide)).mp q
      omega
  · unfold pX8_see_b36
    rw [n3]
    have : n = 6 := by
      have : ¬ n < 6 := fun w => q (nI_lt (a := n) (b := 6) w (by decide))
      omega
    rw [this]
    exact ⟨fun q => absurd rfl q, fun _ => ⟨rfl, h0⟩⟩
theorem q_see {zx zm : MX} (h : Rel zx zm) (x w s : Int32) : pX7_see zx x w s (fun r zx1 => pX8_see zm x w s (fun r2 zm1 => r = r2 ∧ Rel zx1 zm1)) := by
  have h0 := h
  obtain ⟨A, a, b, c, d, e, f, g, i, j, k⟩ := h
  have hT := a.2.2.1
  have hB := a.2.1
  unfold pX7_see pX8_see
  rcases ix x (n := A 0 1) (by omega) with hx | ⟨y, hy, rfl⟩
  · exact sX_trN b hx ⟨fun _ => sM_trN c a hx ⟨fun _ => ⟨rfl, h0⟩, fun q => absurd rfl q⟩, fun q => absurd rfl q⟩
  · refine sX_trY b a hy ⟨fun q => absurd q (by decide), fun _ => ?_⟩
    rcases ix w (n := 120) (by decide) with hw | ⟨v, hv, rfl⟩
    · exact cMinuteN hw ⟨fun _ => sM_trY c a hy ⟨fun q => absurd q (by decide), fun _ => cInN zm 119 (by decide) (by decide) hw ⟨fun _ => ⟨rfl, h0⟩, fun q => absurd rfl q⟩⟩, fun q => absurd rfl q⟩
    · have ask : ∀ p : Int32 → MX → Prop, ((s = (-4 : Int32) → pX8_see_b36 p zm (nI y) (nI v) s) ∧ (¬ s = (-4 : Int32) → pX8_isBlock zm s (fun r28 z28 => ((¬ r28 = 0 → pX8_see_b36 p z28 (nI y) (nI v) s) ∧ (r28 = 0 → p (-1 : Int32) z28))))) → pX8_isTrain zm (nI y) (fun (r2 : Int32) (z2 : MX) => ((r2 = 0 → p (-1 : Int32) z2) ∧ (¬ r2 = 0 → pX8_in z2 (Int32.toInt64 (nI v)) (0 : Int64) (119 : Int64) (fun (r14 : Int32) (z14 : MX) => ((r14 = 0 → p (-1 : Int32) z14) ∧ (¬ r14 = 0 → ((s = (-4 : Int32) → pX8_see_b36 p z14 (nI y) (nI v) s) ∧ (¬ s = (-4 : Int32) → pX8_isBlock z14 s (fun r28 z28 => ((¬ r28 = 0 → pX8_see_b36 p z28 (nI y) (nI v) s) ∧ (r28 = 0 → p (-1 : Int32) z28)))))))))) ) := by
        intro p hp
        exact sM_trY c a hy ⟨fun q => absurd q (by decide), fun _ => cInY zm 119 (by decide) (by decide) (by omega) ⟨fun q => absurd q (by decide), fun _ => hp⟩⟩
      refine cMinuteY hv ⟨fun q => absurd q (by decide), fun _ => ⟨fun q => ?_, fun q => ?_⟩⟩
      · exact see_b h0 hv _ _ _ (fun r zx1 hr => ask _ ⟨fun _ => hr, fun q2 => absurd q q2⟩)
      · rcases ix s (n := A 0 0) (by omega) with hs | ⟨u, hu, rfl⟩
        · exact sX_blkN b hs ⟨fun q => absurd rfl q, fun _ => ask (fun r2 zm1 => (-1 : Int32) = r2 ∧ Rel zx zm1) ⟨fun q2 => absurd q2 q, fun _ => sM_blkN c a hs ⟨fun q => absurd rfl q, fun _ => ⟨rfl, h0⟩⟩⟩⟩
        · exact sX_blkY b a hu ⟨fun _ => see_b h0 hv _ _ _ (fun r zx1 hr => ask _ ⟨fun q2 => absurd q2 q, fun _ => sM_blkY c a hu ⟨fun _ => hr, fun q => absurd q (by decide)⟩⟩), fun q => absurd q (by decide)⟩
theorem q_forget {zx zm : MX} (h : Rel zx zm) (x : Int32) : pX7_forget zx x (fun r zx1 => pX8_forget zm x (fun r2 zm1 => r = r2 ∧ Rel zx1 zm1)) := by
  have h0 := h
  obtain ⟨A, a, b, c, d, e, ⟨n, n1, n2, n3, n4⟩, g, i, j, k⟩ := h
  unfold pX7_forget pX8_forget
  rw [n2, n3]
  intro v hv
  rw [hv]
  rcases ix x (n := n + 1) (by omega) with hx | ⟨y, hy, rfl⟩
  · have hx2 : x < 0 ∨ nI n < x := by
      rcases hx with e | e
      · exact Or.inl e
      · exact Or.inr (fa_of_nle (fun q => nI_ge (a := n) (b := n + 1) (by omega) (by omega) (Int32.le_trans e q)))
    have bad : ∀ post : Int32 → MX → Prop, post 0 zm → pX8_in zm x.toInt64 0 (nI n).toInt64 post := fun post hp => s_iN zm (lo := 0) (by decide) rfl hx2 hp
    refine ⟨fun _ => bad _ ⟨fun q => absurd rfl q, fun _ => ⟨rfl, h0⟩⟩, fun e => ⟨fun e2 => ?_, fun _ => bad _ ⟨fun q => absurd rfl q, fun _ => ⟨rfl, h0⟩⟩⟩⟩
    grind
  · refine ⟨fun e => absurd e (nI_pos (by omega)), fun _ => ⟨fun _ z1 e1 => ?_, fun e => absurd (nI_le (a := y) (b := n) (by omega) (by omega)) e⟩⟩
    refine s_iY zm (lo := 0) (by decide) rfl (nI_pos' (by omega)) (nI_le (by omega) (by omega)) ⟨fun _ w hw y1 g1 => ?_, fun q => absurd q (by decide)⟩
    rw [n3] at hw
    refine ⟨hw.symm, h0.seen (fun c hc => by rw [e1, mw_n _ _ _ (by omega)]) (fun c h1 h2 => by rw [g1, mw_n _ _ _ (by omega)]) (fun k hk => by rw [g1, mw_k _ _ hk]) ⟨y, by omega, by rw [e1, mw_s], by rw [g1, mw_s], fun k hk => ?_⟩⟩
    rw [e1, g1, mw_n _ _ _ (by decide), mw_n _ _ _ (by decide), mw_n _ _ _ (by decide), mw_n _ _ _ (by decide)]
    exact n4 k (by omega)
