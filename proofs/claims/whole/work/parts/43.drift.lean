/-! drift -/
theorem ush (x : Int32) : (x.toUInt32 >>> (Int32.toUInt32 (16 : Int32) &&& Int32.toUInt32 31)).toInt32 &&& (32767 : Int32) = (x >>> ((16 : Int32) &&& 31)) &&& (32767 : Int32) := by
  obtain ⟨j, hj, e⟩ := pk_andE (x >>> ((16 : Int32) &&& 31)) (m := 32767) 15 (by decide)
  apply Int32.toBitVec_inj.mp
  apply BitVec.eq_of_getLsbD_eq
  intro i hi
  have e1 : (Int32.toUInt32 (16 : Int32) &&& Int32.toUInt32 31) = 16 := by decide
  have e2 : ((16 : Int32) &&& 31) = 16 := by decide
  rw [e1, e2]
  have a1 : ((x.toUInt32 >>> 16).toInt32 &&& (32767 : Int32)).toBitVec = (x.toBitVec >>> (16 : Nat)) &&& 32767#32 := by rfl
  have a2 : ((x >>> (16 : Int32)) &&& (32767 : Int32)).toBitVec = (x.toBitVec.sshiftRight 16) &&& 32767#32 := by rfl
  rw [a1, a2, BitVec.getLsbD_and, BitVec.getLsbD_and, BitVec.getLsbD_ushiftRight, BitVec.getLsbD_sshiftRight]
  by_cases c : i < 15
  · have h1 : ¬ 32 ≤ i := by omega
    have h2 : 16 + i < 32 := by omega
    simp [h1, h2]
  · have h3 : (32767#32).getLsbD i = false := by
      have : i = 15 ∨ i = 16 ∨ i = 17 ∨ i = 18 ∨ i = 19 ∨ i = 20 ∨ i = 21 ∨ i = 22 ∨ i = 23 ∨ i = 24 ∨ i = 25 ∨ i = 26 ∨ i = 27 ∨ i = 28 ∨ i = 29 ∨ i = 30 ∨ i = 31 := by omega
      rcases this with h | h | h | h | h | h | h | h | h | h | h | h | h | h | h | h | h <;> subst h <;> decide
    rw [h3, Bool.and_false, Bool.and_false]
def nx (s : Int32) : Int32 := (s * (1103515245 : Int32)) + (12345 : Int32)
def dr (s : Int32) (n : Nat) : Nat := ((s >>> ((16 : Int32) &&& 31)) &&& (32767 : Int32)).toNatClampNeg % n
theorem dr_lt (s : Int32) {n : Nat} (h : 0 < n) : dr s n < n := Nat.mod_lt _ h
theorem dr_e (s : Int32) {n : Nat} (h0 : 0 < n) (h : n < 2 ^ 31) : ((s >>> ((16 : Int32) &&& 31)) &&& (32767 : Int32)) - ((s >>> ((16 : Int32) &&& 31)) &&& (32767 : Int32)) / nI n * nI n = nI (dr s n) := by
  obtain ⟨j, hj, e⟩ := pk_andE (s >>> ((16 : Int32) &&& 31)) (m := 32767) 15 (by decide)
  unfold dr
  rw [e, pk_rem (by omega) h0 h, nI_clamp (by omega)]
noncomputable def hgA (A : AL) (b v : Nat) : AL := @ite _ (lkd A b v) (Classical.propDecidable _) A (Au A 1 b v)
theorem hgA_l {A : AL} {b v : Nat} (h : lkd A b v) : hgA A b v = A := by unfold hgA; rw [if_pos h]
theorem hgA_y {A : AL} {b v : Nat} (h : ¬ lkd A b v) : hgA A b v = Au A 1 b v := by unfold hgA; rw [if_neg h]
theorem AOK.hg {A : AL} (h : AOK A) {b v : Nat} (hb : b < A 0 0) (hv : v < 5) : AOK (hgA A b v) := by
  by_cases c : lkd A b v
  · rw [hgA_l c]; exact h
  · rw [hgA_y c]; exact h.o hb hv
theorem hgA_n (A : AL) (b v : Nat) {a : Nat} (h : a ≠ 1) : hgA A b v a = A a := by
  by_cases c : lkd A b v
  · rw [hgA_l c]
  · rw [hgA_y c]
    funext k
    rw [Au_g, if_neg (fun w => h w.1)]
theorem sX_hg {i : Nat} {z : MX} {A : AL} (hL : LX i z A) (hA : AOK A) {b v : Nat} (hb : b < A 0 0) (hv : v < 5) (post : Int32 → MX → Prop) (h : ∀ r z1, fr (4 * i + 1) (4 * i + 1) z z1 → LX i z1 (hgA A b v) → post r z1) : pX0_tryToHang i z (nI b) (nI v) post := by
  by_cases c : lkd A b v
  · exact sX_hangL hL hA hb hv c (h _ _ (fr.rf _ _ z) (by rw [hgA_l c]; exact hL))
  · refine sX_hangY hL hA hb hv c (fun z1 e1 => h _ _ ?_ ?_)
    · rw [e1]; exact (fr.rf _ _ z).mw _ _ (by omega) (by omega)
    · rw [e1, hgA_y c]; exact hL.o _ _
theorem sM_hg {z : MX} {A : AL} (hL : LM z A) (hA : AOK A) {b v : Nat} (hb : b < A 0 0) (hv : v < 5) (post : Int32 → MX → Prop) (h : ∀ r z1, (∀ c, c ≠ 1 → z1.1 c = z.1 c) → (∀ q, 8 ≤ q → z1.1 1 q = z.1 1 q) → LM z1 (hgA A b v) → post r z1) : pX8_hangs z (nI b) (nI v) post := by
  have hB := hA.2.1
  by_cases c : lkd A b v
  · exact sM_hangL hL hA hb hv c (h _ _ (fun _ _ => rfl) (fun _ _ => rfl) (by rw [hgA_l c]; exact hL))
  · refine sM_hangY hL hA hb hv c (fun z1 e1 => h _ _ ?_ ?_ ?_)
    · intro c hc; rw [e1, mw_n _ _ _ hc]
    · intro q hq; rw [e1, mw_k _ _ (by omega)]
    · rw [e1, hgA_y c]; exact hL.o _ (by omega)
noncomputable def drS (A : AL) (s : Int32) : Nat → AL × Int32
  | 0 => (A, s)
  | k + 1 => (hgA (drS A s k).1 (dr (nx (drS A s k).2) (A 0 0)) (dr (nx (nx (drS A s k).2)) 5), nx (nx (drS A s k).2))
theorem drS_s (A : AL) (s : Int32) (k : Nat) : drS A s (k + 1) = (hgA (drS A s k).1 (dr (nx (drS A s k).2) (A 0 0)) (dr (nx (nx (drS A s k).2)) 5), nx (nx (drS A s k).2)) := rfl
noncomputable def drB (A : AL) (s : Int32) : Nat → Int32
  | 0 => 0
  | k + 1 => drB A s k + (if aTr (drS A s (k + 1)).1 120 3 0 = -4 then 0 else 1)
noncomputable def drC (A : AL) (s : Int32) : Nat → Int32
  | 0 => 0
  | k + 1 => drC A s k + aCost (drS A s (k + 1)).1 (aTr (drS A s (k + 1)).1 120) ((drS A s (k + 1)).1 0 1)
theorem drS_ok {A : AL} (h : AOK A) (s : Int32) : ∀ k, AOK (drS A s k).1 ∧ (drS A s k).1 0 = A 0 := by
  intro k
  induction k with
  | zero => exact ⟨h, rfl⟩
  | succ k ih =>
    rw [drS_s]
    refine ⟨ih.1.hg (by rw [ih.2]; exact dr_lt _ (by have := h.1; omega)) (dr_lt _ (by decide)), ?_⟩
    show hgA _ _ _ 0 = _
    rw [hgA_n _ _ _ (by decide), ih.2]
theorem df_s43 (post : Int32 → MX → Prop) (n : Nat) : pX7_drift_L43 post (n + 1) = pX7_drift_l43 (pX7_drift_L43 post n) post := rfl
theorem df_s45 (post : Int32 → MX → Prop) (n : Nat) : pX8_drift_L45 post (n + 1) = pX8_drift_l45 (pX8_drift_L45 post n) post := rfl
theorem sX_drawn {z : MX} (s : Int32) {n : Nat} (h0 : 0 < n) (hn : n < 2 ^ 31) (post : Int32 → MX → Prop) (h : post (nI (dr s n)) z) : pX7_drawn z s (nI n) post := by
  unfold pX7_drawn
  rw [ush, dr_e s h0 hn]
  exact ⟨fun c => absurd c (nI_nle h0 hn), fun _ => ⟨nI_ne0 h0 hn, h⟩⟩
theorem sM_draws {z : MX} {n : Nat} (h0 : 0 < n) (hn : n < 2 ^ 31) (post : Int32 → MX → Prop) (h : ∀ z1, z1 = mw z 0 39 (nx (z.1 0 39)) → post (nI (dr (nx (z.1 0 39)) n)) z1) : pX8_draws z (nI n) post := by
  unfold pX8_draws
  intro z1 e1
  have e2 : z1.1 0 39 = nx (z.1 0 39) := by rw [e1, mw_s]; rfl
  rw [e2, dr_e _ h0 hn]
  exact ⟨nI_ne0 h0 hn, h z1 e1⟩
theorem NMx_w39 {P : Nat → Prop} {z z1 : MX} (h : NMx P z z1) (v : Int32) : NMx P z (mw z1 0 39 v) := ⟨fun c hc => by rw [mw_n _ _ _ (by omega)]; exact h.1 c hc, fun q hq => by rw [mw_k _ _ (by omega)]; exact h.2.1 q hq, fun q hq hp => by rw [mw_n _ _ _ (by decide)]; exact h.2.2 q hq hp⟩
theorem LM_w39 {z : MX} {A : AL} (h : LM z A) (v : Int32) : LM (mw z 0 39 v) A := h.cells (fun k hk => by rw [mw_k _ _ (by omega)]) (fun c h1 h2 => by rw [mw_n _ _ _ (by omega)])
set_option maxHeartbeats 4000000 in
theorem q_drift {zx zm : MX} (h : Rel zx zm) (s x u : Int32) : pX7_drift zx s x u (fun r zx1 => pX8_drift zm s x u (fun r2 zm1 => r = r2 ∧ Rel zx1 zm1)) := by
  have h0 := h
  obtain ⟨A, a, b, c, d, e, f, g, i, j, k⟩ := h
  have hB := a.2.1
  have hB1 := a.1
  have hT := a.2.2.1
  unfold pX7_drift pX8_drift
  by_cases hx : 1 ≤ x ∧ x ≤ 20
  · obtain ⟨n, hn1, hn2, rfl⟩ : ∃ n, 1 ≤ n ∧ n ≤ 20 ∧ x = nI n := by
      rcases ix x (n := 21) (by decide) with q | ⟨n, q1, q2⟩
      · rw [show nI 21 = (21 : Int32) from rfl] at q
        grind
      · refine ⟨n, ?_, by omega, q2⟩
        have := hx.1
        rw [q2] at this
        exact (nI_leI (a := 1) (b := n) (by decide) (by omega)).mp this
    have inn : ∀ p : Int32 → MX → Prop, p 1 zm → pX8_in zm (nI n).toInt64 1 20 p := fun p hp => s_iY zm (lo := 1) (hi := 20) (by decide) (by decide) hx.1 hx.2 hp
    refine ⟨fun q => absurd q (by have := hx.1; grind), fun _ => ⟨fun q => absurd q (by have := hx.2; grind), fun _ => ?_⟩⟩
    rcases ix u (n := 2) (by decide) with hu | ⟨w, hw, rfl⟩
    · exact c01N hu ⟨fun q => absurd rfl q, fun _ => inn _ ⟨fun q => absurd q (by decide), fun _ => cInN zm 1 (by decide) (by decide) hu ⟨fun q => absurd rfl q, fun _ => ⟨rfl, h0⟩⟩⟩⟩
    · have ref : ∀ v z1, NX zx z1 → v = (if w = 0 then drB A s n else drC A s n) → pX8_in zm (Int32.toInt64 (nI n)) (1 : Int64) (20 : Int64) (fun (r6 : Int32) (z6 : MX) => ((r6 = 0 → v = (-1 : Int32) ∧ Rel z1 z6) ∧ (¬ r6 = 0 → pX8_in z6 (Int32.toInt64 (nI w)) (0 : Int64) (1 : Int64) (fun (r16 : Int32) (z16 : MX) => ((¬ r16 = 0 → pX8_copies z16 (0 : Int32) (100 : Int32) (fun (z34 : MX) => ∀ z39 : MX, z39 = mw z34 0 39 s → ∃ q, pX8_drift_L45 (fun r2 zm1 => v = r2 ∧ Rel z1 zm1) q z39 (nI n) (nI w) (0 : Int32) (0 : Int32) (0 : Int32))) ∧ (r16 = 0 → v = (-1 : Int32) ∧ Rel z1 z16)))))) := by
        intro v z1 n1 hv
        refine inn _ ⟨fun q => absurd q (by decide), fun _ => cInY zm 1 (by decide) (by decide) (by omega) ⟨fun _ => sM_save _ (fun y1 m1 t1 y2 e2 => ⟨n + 1, ?_⟩), fun q => absurd q (by decide)⟩⟩
        have key : ∀ q k y3, k + q = n → NMx (fun k => k < 25) zm y3 → (∀ k, k < 25 → y3.1 1 (100 + k) = zm.1 1 k) → LM y3 (drS A s k).1 → y3.1 0 39 = (drS A s k).2 → pX8_drift_L45 (fun r2 zm1 => v = r2 ∧ Rel z1 zm1) (q + 1) y3 (nI n) (nI w) (drB A s k) (drC A s k) (nI k) := by
          intro q
          induction q with
          | zero =>
            intro k y3 hk n3 t3 q3 s3
            rw [df_s45]
            unfold pX8_drift_l45
            have ek : k = n := by omega
            rw [ek]
            refine ⟨fun _ => sM_restore n3 t3 _ (fun y4 n4 _ => ⟨fun c => ⟨?_, h0.N n1 n4⟩, fun c => ⟨?_, h0.N n1 n4⟩⟩), fun c => absurd (nI_le (Nat.le_refl _) (by omega)) c⟩
            · rw [hv, if_neg (fun q => c (by rw [q]; rfl))]
            · rw [hv, if_pos ((nI_eq (b := 0) (by omega) (by decide)).mp c)]
          | succ q ih =>
            intro k y3 hk n3 t3 q3 s3
            obtain ⟨o1, o2⟩ := drS_ok a s k
            obtain ⟨o3, o4⟩ := drS_ok a s (k + 1)
            rw [df_s45]
            unfold pX8_drift_l45
            rw [q3.1, o2]
            refine ⟨fun c => absurd c (nI_ge (by omega) (by omega)), fun _ => sM_draws (by omega) (by omega) _ (fun y4 e4 => sM_draws (n := 5) (by decide) (by decide) _ (fun y5 e5 => ?_))⟩
            have s4 : y4.1 0 39 = nx (drS A s k).2 := by rw [e4, mw_s, s3]
            rw [s4] at e5
            rw [s4, s3]
            have q5 : LM y5 (drS A s k).1 := by rw [e5, e4]; exact LM_w39 (LM_w39 q3 _) _
            have n5 : NMx (fun k => k < 25) zm y5 := by rw [e5, e4]; exact NMx_w39 (NMx_w39 n3 _) _
            have t5 : ∀ k, k < 25 → y5.1 1 (100 + k) = zm.1 1 k := fun k hk => by rw [e5, e4, mw_n _ _ _ (by decide), mw_n _ _ _ (by decide)]; exact t3 k hk
            refine sM_hg q5 o1 (by rw [o2]; exact dr_lt _ (by omega)) (dr_lt _ (by decide)) _ (fun r y6 a1 a2 q6 => ?_)
            have q6' : LM y6 (drS A s (k + 1)).1 := q6
            have n6 : NMx (fun k => k < 25) zm y6 := ⟨fun c hc => by rw [a1 c (by omega)]; exact n5.1 c hc, fun q hq => by rw [a1 0 (by decide)]; exact n5.2.1 q hq, fun q hq hp => by rw [a2 q (by omega)]; exact n5.2.2 q hq hp⟩
            refine sM_run q6' o3.R _ (fun y7 f7 r7 _ => ?_)
            have n7 := n6.run f7
            have q7 := q6'.fr f7
            have t7 : ∀ k, k < 25 → y7.1 1 (100 + k) = zm.1 1 k := fun k hk => by rw [f7.1 1 (by decide) (by decide), a2 _ (by omega)]; exact t5 k hk
            have s7 : y7.1 0 39 = (drS A s (k + 1)).2 := by rw [f7.2.1 39 (by omega), a1 0 (by decide), e5, mw_s]; rfl
            rw [r7.2.2.2.1]
            have ihk := ih (k + 1) y7 (by omega) n7 t7 q7 s7
            unfold pX8_drift_b93
            refine ⟨fun cc v1 hv1 => sM_cost q7 o3.R r7 _ (fun v2 hv2 v3 hv3 => ?_), fun cc v1 hv1 => sM_cost q7 o3.R r7 _ (fun v2 hv2 v3 hv3 => ?_)⟩
            · have eb : drB A s (k + 1) = drB A s k + 0 := by show _ + _ = _; rw [if_pos cc]
              rw [hv1, hv2, hv3, nI_1, ← eb]
              exact ihk
            · have eb : drB A s (k + 1) = drB A s k + 1 := by show _ + _ = _; rw [if_neg cc]
              rw [hv1, hv2, hv3, nI_1, ← eb]
              exact ihk
        refine key n 0 y2 (by omega) (by rw [e2]; exact NMx_w39 m1.x _) (fun k hk => by rw [e2, mw_n _ _ _ (by decide)]; exact t1 k hk) (by rw [e2]; exact LM_w39 (c.N m1 hT) _) (by rw [e2, mw_s]; rfl)
      refine c01Y hw ⟨fun _ => sX_copy (by decide) b a.2.2.2.1 hT _ (fun z1 f1 q1 => ⟨n + 1, ?_⟩), fun q => absurd q (by decide)⟩
      have key : ∀ q k z3, k + q = n → NX zx z3 → LX 1 z3 (drS A s k).1 → pX7_drift_L43 (fun r zx1 => pX8_in zm (Int32.toInt64 (nI n)) (1 : Int64) (20 : Int64) (fun (r6 : Int32) (z6 : MX) => ((r6 = 0 → r = (-1 : Int32) ∧ Rel zx1 z6) ∧ (¬ r6 = 0 → pX8_in z6 (Int32.toInt64 (nI w)) (0 : Int64) (1 : Int64) (fun (r16 : Int32) (z16 : MX) => ((¬ r16 = 0 → pX8_copies z16 (0 : Int32) (100 : Int32) (fun (z34 : MX) => ∀ z39 : MX, z39 = mw z34 0 39 s → ∃ q, pX8_drift_L45 (fun r2 zm1 => r = r2 ∧ Rel zx1 zm1) q z39 (nI n) (nI w) (0 : Int32) (0 : Int32) (0 : Int32))) ∧ (r16 = 0 → r = (-1 : Int32) ∧ Rel zx1 z16))))))) (q + 1) z3 (nI n) (nI w) (drB A s k) (drC A s k) (drS A s k).2 (nI k) := by
        intro q
        induction q with
        | zero =>
          intro k z3 hk n3 q3
          rw [df_s43]
          unfold pX7_drift_l43
          have ek : k = n := by omega
          rw [ek]
          refine ⟨fun _ => ⟨fun c => ref _ z3 n3 ?_, fun c => ref _ z3 n3 ?_⟩, fun c => absurd (nI_le (Nat.le_refl _) (by omega)) c⟩
          · rw [if_neg (fun q => c (by rw [q]; rfl))]
          · rw [if_pos ((nI_eq (b := 0) (by omega) (by decide)).mp c)]
        | succ q ih =>
          intro k z3 hk n3 q3
          obtain ⟨o1, o2⟩ := drS_ok a s k
          obtain ⟨o3, o4⟩ := drS_ok a s (k + 1)
          rw [df_s43]
          unfold pX7_drift_l43 pX7_nextSeed
          refine ⟨fun c => absurd c (nI_ge (by omega) (by omega)), fun _ => ?_⟩
          show pX7_drawn z3 _ (z3.1 (4 * 0) 0) _
          rw [(b.N n3 (Or.inl rfl)).1]
          refine sX_drawn _ (by omega) (by omega) _ (sX_drawn (n := 5) _ (by decide) (by decide) _ ?_)
          refine sX_hg q3 o1 (by rw [o2]; exact dr_lt _ (by omega)) (dr_lt _ (by decide)) _ (fun r z4 f4 q4 => ?_)
          have q4' : LX 1 z4 (drS A s (k + 1)).1 := q4
          refine sX_play (by decide) q4' o3.R _ (fun z5 f5 r5 _ c5 => ?_)
          have n5 := (n3.tr (NX.of f4 (by omega))).tr (NX.of f5 (by omega))
          have ihk := ih (k + 1) z5 (by omega) n5 (q4'.fr f5 (by omega))
          rw [r5.2.2.2.1]
          unfold pX7_drift_b123
          rw [c5]
          refine ⟨fun cc v1 hv1 v2 hv2 v3 hv3 => ?_, fun cc v1 hv1 v2 hv2 v3 hv3 => ?_⟩
          · have eb : drB A s (k + 1) = drB A s k + 1 := by show _ + _ = _; rw [if_neg cc]
            rw [hv1, hv2, hv3, nI_1, ← eb]
            exact ihk
          · have eb : drB A s (k + 1) = drB A s k + 0 := by show _ + _ = _; rw [if_pos cc]
            rw [hv1, hv2, hv3, nI_1, ← eb]
            exact ihk
      exact key n 0 z1 (by omega) (NX.of f1 (by omega)) q1
  · have bad : ∀ p : Int32 → MX → Prop, p 0 zm → pX8_in zm x.toInt64 1 20 p := fun p hp => s_iN zm (lo := 1) (hi := 20) (by decide) (by decide) (by grind) hp
    refine ⟨fun _ => bad _ ⟨fun _ => ⟨rfl, h0⟩, fun q => absurd rfl q⟩, fun q1 => ⟨fun _ => bad _ ⟨fun _ => ⟨rfl, h0⟩, fun q => absurd rfl q⟩, fun q2 => ?_⟩⟩
    grind
