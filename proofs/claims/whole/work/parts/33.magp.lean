/-! magpies, allowed -/
theorem sM_save {zm : MX} (post : MX → Prop) (h : ∀ y, NM zm y → (∀ k, k < 25 → y.1 1 (100 + k) = zm.1 1 k) → post y) : pX8_copies zm (nI 0) (nI 100) post := by
  refine sM_copies (by omega) (by omega) (by omega) _ (fun y a1 a2 a3 => h y ⟨fun c hc => a1 c (by omega), fun k _ => by rw [a1 0 (by decide)], fun k hk => by rw [a3, if_neg (by omega)]⟩ (fun k hk => ?_))
  rw [a3, if_pos (by omega), show 0 + (100 + k - 100) = k by omega]
theorem sM_restore {zm y4 : MX} (n : NMx (fun k => k < 25) zm y4) (t : ∀ k, k < 25 → y4.1 1 (100 + k) = zm.1 1 k) (post : MX → Prop) (h : ∀ y, NM zm y → (∀ k, k < 25 → y.1 1 (100 + k) = zm.1 1 k) → post y) : pX8_copies y4 (nI 100) (nI 0) post := by
  refine sM_copies (by omega) (by omega) (by omega) _ (fun y a1 a2 a3 => h y ⟨fun c hc => by rw [a1 c (by omega)]; exact n.1 c hc, fun k hk => by rw [a1 0 (by decide)]; exact n.2.1 k hk, fun k hk => ?_⟩ (fun k hk => ?_))
  · rw [a3]
    by_cases c : 0 ≤ k ∧ k < 0 + 25
    · rw [if_pos c, show 100 + (k - 0) = 100 + k by omega]
      exact t k (by omega)
    · rw [if_neg c]
      exact n.2.2 k hk (by omega)
  · rw [a3, if_neg (by omega)]
    exact t k hk
theorem NM.x {P : Nat → Prop} {z z1 : MX} (h : NM z z1) : NMx P z z1 := ⟨h.1, h.2.1, fun k hk _ => h.2.2 k hk⟩
theorem or_lt {a b : Nat} (ha : a < 256) (hb : b < 256) : a ||| b < 256 := Nat.or_lt_two_pow (n := 8) ha hb
def okM (A : AL) (k : Nat) : Prop := (nI k &&& nI (obN (A 1) 8)) = 0 ∧ alP A (k ||| obN (A 1) 8) (A 0 2) ∧ aTr (mgA A k) 120 3 0 = -4
set_option maxHeartbeats 2000000 in
theorem sX_magp {z : MX} {A : AL} (hL : LX 0 z A) (hA : AOK A) (post : Int32 → MX → Prop) (h : ∀ z1, NX z z1 → post (fwG (okM A) (2 ^ A 0 0)) z1) : pX6_fewestMagpies 0 z post := by
  have hB := hA.2.1
  have hP := pow_le8 _ hB
  have hO : obN (A 1) 8 < 256 := obN_lt _ 8
  unfold pX6_fewestMagpies
  refine sX_omenBits hL.2.2.2.2.1 hA.2.2.2.2.2.1 _ ?_
  have key : ∀ n k z2, k + n = 2 ^ A 0 0 → NX z z2 → pX6_fewestMagpies_L11 0 post (n + 1) z2 (nI (obN (A 1) 8)) (fwG (okM A) k) (nI k) := by
    intro n
    induction n with
    | zero =>
      intro k z2 hk n2
      show pX6_fewestMagpies_l11 0 _ post z2 _ _ (nI k)
      unfold pX6_fewestMagpies_l11
      rw [(hL.N n2 (Or.inl rfl)).1, shlN (by omega)]
      have ek : k = 2 ^ A 0 0 := by omega
      rw [ek]
      exact ⟨fun _ => h z2 n2, fun c => absurd (nI_le (Nat.le_refl _) (by omega)) c⟩
    | succ n ih =>
      intro k z2 hk n2
      show pX6_fewestMagpies_l11 0 _ post z2 _ _ (nI k)
      unfold pX6_fewestMagpies_l11
      have hL2 := hL.N n2 (Or.inl rfl)
      rw [hL2.1, shlN (by omega)]
      have go : ∀ z3 v, v = fwG (okM A) (k + 1) → NX z z3 → pX6_fewestMagpies_b97 0 (pX6_fewestMagpies_L11 0 post (n + 1)) post z3 (nI (obN (A 1) 8)) v (nI k) := by
        intro z3 v hv n3 x hx
        rw [hx, nI_1, hv]
        exact ih (k + 1) z3 (by omega) n3
      refine ⟨fun c => absurd c (nI_ge (by omega) (by omega)), fun _ => ⟨fun c => go z2 _ (fwG_n (fun w => c w.1.1)).symm n2, fun c => sX_smaller (by omega) (fwG_ok _ k (by omega)) _ (fun s => ⟨fun q => absurd q (by decide), fun _ => ?_⟩) (fun s => ⟨fun _ => go z2 _ (fwG_n (fun w => s w.2)).symm n2, fun q => absurd rfl q⟩)⟩⟩
      rw [fa_or]
      refine hL2.allows hA (or_lt (by omega) hO) _ (fun al => ⟨fun q => absurd q (by decide), fun _ => ?_⟩) (fun al => ⟨fun _ => go z2 _ (fwG_n (fun w => al w.1.2.1)).symm n2, fun q => absurd rfl q⟩)
      refine sX_copy (by decide) hL2 hA.2.2.2.1 hA.2.2.1 _ (fun z3 f3 q3 => sX_magpies q3 hA (by omega) _ (fun z4 f4 q4 => sX_play (by decide) q4 (hA.m k).R _ (fun z5 f5 r5 _ _ => ?_)))
      have n5 := ((n2.tr (NX.of f3 (by omega))).tr (NX.of f4 (by omega))).tr (NX.of f5 (by omega))
      rw [r5.2.2.2.1]
      exact ⟨fun w => go z5 _ (fwG_n (fun w2 => w w2.1.2.2)).symm n5, fun w => go z5 _ (fwG_p ⟨c, al, w⟩ s).symm n5⟩
  exact ⟨2 ^ A 0 0 + 1, key (2 ^ A 0 0) 0 z (by omega) (NX.rf z)⟩
set_option maxHeartbeats 2000000 in
theorem q_magpies {zx zm : MX} (h : Rel zx zm) (x : Int32) : pX7_magpies zx x (fun r zx1 => pX8_magpies zm x (fun r2 zm1 => r = r2 ∧ Rel zx1 zm1)) := by
  have h0 := h
  obtain ⟨A, a, b, c, d, e, f, g, i, j, k⟩ := h
  have hB := a.2.1
  have hP := pow_le8 _ hB
  have hO : obN (A 1) 8 < 256 := obN_lt _ 8
  unfold pX7_magpies pX8_magpies
  rcases ix x (n := 2) (by decide) with hx | ⟨y, hy, rfl⟩
  · exact c01N hx ⟨fun q => absurd rfl q, fun _ => cInN zm 1 (by decide) (by decide) hx ⟨fun q => absurd rfl q, fun _ => ⟨rfl, h0⟩⟩⟩
  · refine c01Y hy ⟨fun _ => sX_magp b a _ (fun z1 n1 => ?_), fun q => absurd q (by decide)⟩
    have hb := fwG_ok (okM A) (2 ^ A 0 0) hP
    have ref : ∀ v : Int32, v = (if fwG (okM A) (2 ^ A 0 0) = -4 then -4 else if y = 0 then nI (pcN (fwG (okM A) (2 ^ A 0 0)).toNatClampNeg) else fwG (okM A) (2 ^ A 0 0)) → pX8_in zm (Int32.toInt64 (nI y)) (0 : Int64) (1 : Int64) (fun (r4 : Int32) (z4 : MX) => ((¬ r4 = 0 → pX8_omens z4 (fun (r13 : Int32) (z13 : MX) => pX8_copies z13 (0 : Int32) (100 : Int32) (fun (z24 : MX) => ∃ n, pX8_magpies_L30 (fun r2 zm1 => v = r2 ∧ Rel z1 zm1) n z24 (nI y) r13 (-4 : Int32) (0 : Int32)))) ∧ (r4 = 0 → v = (-1 : Int32) ∧ Rel z1 z4))) := by
      intro v hv
      refine cInY zm 1 (by decide) (by decide) (by omega) ⟨fun _ => sM_omens c a _ (sM_save _ (fun y1 m1 t1 => ?_)), fun q => absurd q (by decide)⟩
      have key : ∀ n k y2, k + n = 2 ^ A 0 0 → NM zm y2 → (∀ k, k < 25 → y2.1 1 (100 + k) = zm.1 1 k) → pX8_magpies_L30 (fun r2 zm1 => v = r2 ∧ Rel z1 zm1) (n + 1) y2 (nI y) (nI (obN (A 1) 8)) (fwG (okM A) k) (nI k) := by
        intro n
        induction n with
        | zero =>
          intro k y2 hk n2 t2
          show pX8_magpies_l30 _ _ y2 _ _ _ (nI k)
          unfold pX8_magpies_l30
          rw [(c.N n2 a.2.2.1).1, shlN (by omega)]
          have ek : k = 2 ^ A 0 0 := by omega
          rw [ek]
          refine ⟨fun _ => ?_, fun c => absurd (nI_le (Nat.le_refl _) (by omega)) c⟩
          have hr := h0.N n1 n2
          unfold pX8_magpies_b119
          refine ⟨fun w => ⟨by rw [hv, if_pos w, w], hr⟩, fun w => ⟨fun w2 => ?_, fun w2 => ⟨?_, hr⟩⟩⟩
          · have y0 : y = 0 := by
              have : y ≠ 1 := fun q => w2 (by rw [q]; rfl)
              omega
            rcases hb with q | ⟨jj, hj, q⟩
            · exact absurd q w
            · rw [if_neg w, if_pos y0, q, nI_clamp (by omega)] at hv
              rw [q]
              exact sM_bits hj _ ⟨hv, hr⟩
          · have y1 : y = 1 := (nI_eq (b := 1) (by omega) (by decide)).mp w2
            rw [hv, if_neg w, if_neg (by omega)]
        | succ n ih =>
          intro k y2 hk n2 t2
          show pX8_magpies_l30 _ _ y2 _ _ _ (nI k)
          unfold pX8_magpies_l30
          have c2 := c.N n2 a.2.2.1
          rw [c2.1, shlN (by omega)]
          have go : ∀ y3 w, w = fwG (okM A) (k + 1) → NM zm y3 → (∀ k, k < 25 → y3.1 1 (100 + k) = zm.1 1 k) → pX8_magpies_b102 (pX8_magpies_L30 (fun r2 zm1 => v = r2 ∧ Rel z1 zm1) (n + 1)) (fun r2 zm1 => v = r2 ∧ Rel z1 zm1) y3 (nI y) (nI (obN (A 1) 8)) w (nI k) := by
            intro y3 w hw n3 t3 x hx
            rw [hx, nI_1, hw]
            exact ih (k + 1) y3 (by omega) n3 t3
          refine ⟨fun c => absurd c (nI_ge (by omega) (by omega)), fun _ => ⟨fun w => go y2 _ (fwG_n (fun w2 => w w2.1.1)).symm n2 t2, fun w => sM_fewer (by omega) (fwG_ok _ k (by omega)) _ (fun s => ⟨fun q => absurd q (by decide), fun _ => ?_⟩) (fun s => ⟨fun _ => go y2 _ (fwG_n (fun w => s w.2)).symm n2 t2, fun q => absurd rfl q⟩)⟩⟩
          rw [fa_or]
          refine sM_allowed c2 a (or_lt (by omega) hO) _ (fun al => ⟨fun q => absurd q (by decide), fun _ => ?_⟩) (fun al => ⟨fun _ => go y2 _ (fwG_n (fun w => al w.1.2.1)).symm n2 t2, fun q => absurd rfl q⟩)
          refine sM_magpies c2 a (by omega) _ (fun y3 a1 a2 q3 => sM_run q3 (a.m k).R _ (fun y4 f4 r4 _ => ?_))
          have n3 : NMx (fun k => k < 25) zm y3 := ⟨fun c hc => by rw [a1 c (by omega)]; exact n2.1 c hc, fun q hq => by rw [a1 0 (by decide)]; exact n2.2.1 q hq, fun q hq hp => by rw [a2 q (by omega)]; exact n2.2.2 q hq⟩
          have n4 := n3.run f4
          have t4 : ∀ k, k < 25 → y4.1 1 (100 + k) = zm.1 1 k := fun k hk => by rw [f4.1 1 (by decide) (by decide), a2 _ (by omega)]; exact t2 k hk
          rw [r4.2.2.2.1]
          exact ⟨fun w3 => sM_restore n4 t4 _ (fun y5 n5 t5 => go y5 _ (fwG_n (fun w4 => w3 w4.1.2.2)).symm n5 t5), fun w3 => sM_restore n4 t4 _ (fun y5 n5 t5 => go y5 _ (fwG_p ⟨w, al, w3⟩ s).symm n5 t5)⟩
      exact ⟨2 ^ A 0 0 + 1, key (2 ^ A 0 0) 0 y1 (by omega) m1 t1⟩
    unfold pX7_sizeOrSet
    refine ⟨fun w => ⟨fun w2 => ref _ ?_, fun w2 => ?_⟩, fun w => ref _ (by rw [if_pos w])⟩
    · rw [if_neg w, if_neg (fun q => w2 (by rw [q]; rfl))]
    · have y0 : y = 0 := (nI_eq (b := 0) (by omega) (by decide)).mp w2
      rcases hb with q | ⟨jj, hj, q⟩
      · exact absurd q w
      · have hr := ref (nI (pcN jj)) (by rw [if_neg w, if_pos y0, q, nI_clamp (by omega)])
        rw [q]
        exact sX_bits hj _ hr
noncomputable def alN (A : AL) : Nat → Nat
  | 0 => 0
  | k + 1 => @ite _ (alP A k (A 0 2)) (Classical.propDecidable _) (alN A k + 1) (alN A k)
noncomputable def alM (A : AL) : Nat → Nat
  | 0 => 0
  | k + 1 => @ite _ (alP A k (A 0 2)) (Classical.propDecidable _) (max (alM A k) (pcN k)) (alM A k)
theorem alN_y {A : AL} {k : Nat} (h : alP A k (A 0 2)) : alN A (k + 1) = alN A k + 1 ∧ alM A (k + 1) = max (alM A k) (pcN k) := by
  constructor
  · show @ite _ _ (Classical.propDecidable _) _ _ = _
    rw [if_pos h]
  · show @ite _ _ (Classical.propDecidable _) _ _ = _
    rw [if_pos h]
theorem alN_n {A : AL} {k : Nat} (h : ¬ alP A k (A 0 2)) : alN A (k + 1) = alN A k ∧ alM A (k + 1) = alM A k := by
  constructor
  · show @ite _ _ (Classical.propDecidable _) _ _ = _
    rw [if_neg h]
  · show @ite _ _ (Classical.propDecidable _) _ _ = _
    rw [if_neg h]
theorem alM_le (A : AL) : ∀ k, k ≤ 256 → alM A k ≤ 8 := by
  intro k
  induction k with
  | zero => intro _; exact Nat.zero_le _
  | succ k ih =>
    intro hk
    have := pcN_le k (by omega)
    have := ih (by omega)
    by_cases c : alP A k (A 0 2)
    · rw [(alN_y c).2]; omega
    · rw [(alN_n c).2]; omega
theorem al_s8 (post : Int32 → MX → Prop) (n : Nat) : pX8_allowed_L19 post (n + 1) = pX8_allowed_l19 (pX8_allowed_L19 post n) post := rfl
theorem al_s7 (post : Int32 → MX → Prop) (n : Nat) : pX7_allowed_L16 post (n + 1) = pX7_allowed_l16 (pX7_allowed_L16 post n) post := rfl
theorem q_allowed {zx zm : MX} (h : Rel zx zm) (x : Int32) : pX7_allowed zx x (fun r zx1 => pX8_allowed zm x (fun r2 zm1 => r = r2 ∧ Rel zx1 zm1)) := by
  have h0 := h
  obtain ⟨A, a, b, c, d, e, f, g, i, j, k⟩ := h
  have hB := a.2.1
  have hP := pow_le8 _ hB
  unfold pX7_allowed pX8_allowed
  rcases ix x (n := 2) (by decide) with hx | ⟨y, hy, rfl⟩
  · exact c01N hx ⟨fun q => absurd rfl q, fun _ => cInN zm 1 (by decide) (by decide) hx ⟨fun q => absurd rfl q, fun _ => ⟨rfl, h0⟩⟩⟩
  · refine c01Y hy ⟨fun _ => ?_, fun q => absurd q (by decide)⟩
    have ref : ∀ v : Int32, v = (if y = 0 then nI (alN A (2 ^ A 0 0)) else nI (alM A (2 ^ A 0 0))) → pX8_in zm (Int32.toInt64 (nI y)) (0 : Int64) (1 : Int64) (fun (r4 : Int32) (z4 : MX) => ((¬ r4 = 0 → ∃ n, pX8_allowed_L19 (fun r2 zm1 => v = r2 ∧ Rel zx zm1) n z4 (nI y) (0 : Int32) (0 : Int32) (0 : Int32)) ∧ (r4 = 0 → v = (-1 : Int32) ∧ Rel zx z4))) := by
      intro v hv
      have key : ∀ n k, k + n = 2 ^ A 0 0 → pX8_allowed_L19 (fun r2 zm1 => v = r2 ∧ Rel zx zm1) (n + 1) zm (nI y) (nI (alN A k)) (nI (alM A k)) (nI k) := by
        intro n
        induction n with
        | zero =>
          intro k hk
          rw [al_s8]
          unfold pX8_allowed_l19
          rw [c.1, shlN (by omega)]
          have ek : k = 2 ^ A 0 0 := by omega
          rw [ek]
          refine ⟨fun _ => ⟨fun w => ⟨?_, h0⟩, fun w => ⟨?_, h0⟩⟩, fun c => absurd (nI_le (Nat.le_refl _) (by omega)) c⟩
          · rw [hv, if_neg (fun q => w (by rw [q]; rfl))]
          · rw [hv, if_pos ((nI_eq (b := 0) (by omega) (by decide)).mp w)]
        | succ n ih =>
          intro k hk
          rw [al_s8]
          unfold pX8_allowed_l19
          rw [c.1, shlN (by omega)]
          have m1 := alM_le A k (by omega)
          have m2 := pcN_le k (by omega)
          refine ⟨fun c => absurd c (nI_ge (by omega) (by omega)), fun _ => sM_allowed c a (by omega) _ (fun al => ⟨fun q => absurd q (by decide), fun _ => ?_⟩) (fun al => ⟨fun _ => ?_, fun q => absurd rfl q⟩)⟩
          · unfold pX8_allowed_b49
            intro u hu
            rw [hu, nI_1]
            have ihk := ih (k + 1) (by omega)
            rw [(alN_y al).1, (alN_y al).2] at ihk
            refine ⟨fun q => absurd q (by decide), fun _ => sM_bits (by omega) _ ⟨fun w => ?_, fun w => sM_bits (by omega) _ ?_⟩⟩
            · intro t ht
              rw [ht, nI_1]
              have := (nI_leI (by omega) (by omega)).mp w
              rw [show max (alM A k) (pcN k) = alM A k by omega] at ihk
              exact ihk
            · intro t ht
              rw [ht, nI_1]
              have : ¬ pcN k ≤ alM A k := fun q => w (nI_le q (by omega))
              rw [show max (alM A k) (pcN k) = pcN k by omega] at ihk
              exact ihk
          · unfold pX8_allowed_b49
            intro u hu
            rw [hu, Int32.add_zero]
            refine ⟨fun _ => ?_, fun q => absurd rfl q⟩
            intro t ht
            rw [ht, nI_1]
            have ihk := ih (k + 1) (by omega)
            rw [(alN_n al).1, (alN_n al).2] at ihk
            exact ihk
      exact cInY zm 1 (by decide) (by decide) (by omega) ⟨fun _ => ⟨2 ^ A 0 0 + 1, key (2 ^ A 0 0) 0 (by omega)⟩, fun q => absurd q (by decide)⟩
    have key : ∀ n k, k + n = 2 ^ A 0 0 → pX7_allowed_L16 (fun r zx1 => pX8_in zm (Int32.toInt64 (nI y)) (0 : Int64) (1 : Int64) (fun (r4 : Int32) (z4 : MX) => ((¬ r4 = 0 → ∃ n, pX8_allowed_L19 (fun r2 zm1 => r = r2 ∧ Rel zx1 zm1) n z4 (nI y) (0 : Int32) (0 : Int32) (0 : Int32)) ∧ (r4 = 0 → r = (-1 : Int32) ∧ Rel zx1 z4)))) (n + 1) zx (nI y) (nI (alN A k)) (nI (alM A k)) (nI k) := by
      intro n
      induction n with
      | zero =>
        intro k hk
        rw [al_s7]
        unfold pX7_allowed_l16
        rw [b.1, shlN (by omega)]
        have ek : k = 2 ^ A 0 0 := by omega
        rw [ek]
        refine ⟨fun _ => ⟨fun w => ref _ ?_, fun w => ref _ ?_⟩, fun c => absurd (nI_le (Nat.le_refl _) (by omega)) c⟩
        · rw [if_neg (fun q => w (by rw [q]; rfl))]
        · rw [if_pos ((nI_eq (b := 0) (by omega) (by decide)).mp w)]
      | succ n ih =>
        intro k hk
        rw [al_s7]
        unfold pX7_allowed_l16
        rw [b.1, shlN (by omega)]
        have m1 := alM_le A k (by omega)
        have m2 := pcN_le k (by omega)
        refine ⟨fun c => absurd c (nI_ge (by omega) (by omega)), fun _ => b.allows a (by omega) _ (fun al => ⟨fun q => absurd q (by decide), fun _ u hu => sX_bits (by omega) _ ?_⟩) (fun al => ⟨fun _ => ?_, fun q => absurd rfl q⟩)⟩
        · intro w hw t ht
          rw [ht, hu, nI_1, nI_1]
          have ihk := ih (k + 1) (by omega)
          rw [(alN_y al).1, (alN_y al).2] at ihk
          have ew : w = nI (max (alM A k) (pcN k)) := by
            rw [hw]
            by_cases q : alM A k < pcN k
            · rw [if_pos (nI_lt q (by omega)), show max (alM A k) (pcN k) = pcN k by omega]
            · rw [if_neg (nI_nlt (by omega) (by omega)), show max (alM A k) (pcN k) = alM A k by omega]
          rw [ew]
          exact ihk
        · intro t ht
          rw [ht, nI_1]
          have ihk := ih (k + 1) (by omega)
          rw [(alN_n al).1, (alN_n al).2] at ihk
          exact ihk
    exact ⟨2 ^ A 0 0 + 1, key (2 ^ A 0 0) 0 (by omega)⟩
