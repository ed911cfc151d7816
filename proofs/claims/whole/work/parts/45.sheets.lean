/-! sheet, lay -/
theorem Rel.sheets {zx zm zx1 zm1 : MX} (h : Rel zx zm) (hx : ∀ c, c < 16 ∨ 23 < c → zx1.1 c = zx.1 c) (hm : ∀ c, c < 17 ∨ 19 < c → zm1.1 c = zm.1 c) (g : ShtR zx1 zm1) : Rel zx1 zm1 := by
  obtain ⟨A, a, b, c, d, e, f, _, i, j, k⟩ := h
  refine ⟨A, a, b.cells (fun c _ _ => hx c (by omega)), c.cells (fun k hk => by rw [hm 0 (by omega)]) (fun c _ _ => hm c (by omega)), d.e (hx 40 (by omega)) (fun c _ _ => hx c (by omega)) (hm 16 (by omega)) (fun k _ _ => by rw [hm 1 (by omega)]), e.e (by rw [hx 24 (by omega)]) (hx 25 (by omega)) (by rw [hm 0 (by omega)]) (hm 6 (by omega)), f.e (by rw [hx 33 (by omega)]) (fun c _ _ => hx c (by omega)) (by rw [hm 0 (by omega)]) (hm 14 (by omega)), g, i.e (hm 7 (by omega)) (hm 8 (by omega)), ?_, ?_⟩
  · rw [hx 38 (by omega), hm 0 (by omega)]; exact j
  · rw [hx 38 (by omega), hm 0 (by omega)]; exact k
theorem sh_s (post : Int32 → MX → Prop) (n : Nat) : pX8_sheet_L56 post (n + 1) = pX8_sheet_l56 (pX8_sheet_L56 post n) post := rfl
theorem sM_zero {z : MX} {y : Nat} (hy : y < 4) (post : Int32 → MX → Prop) (h : ∀ z1, (∀ c, c ≠ 19 → z1.1 c = z.1 c) → (∀ k, z1.1 19 k = if 40 * y ≤ k ∧ k < 40 * y + 40 then 0 else z.1 19 k) → post 1 z1) : ∃ n, pX8_sheet_L56 post n z (nI y) (0 : Int32) := by
  have key : ∀ n i z1, i + n = 40 → (∀ c, c ≠ 19 → z1.1 c = z.1 c) → (∀ k, z1.1 19 k = if 40 * y ≤ k ∧ k < 40 * y + i then 0 else z.1 19 k) → pX8_sheet_L56 post (n + 1) z1 (nI y) (nI i) := by
    intro n
    induction n with
    | zero =>
      intro i z1 hi h1 h2
      rw [sh_s]
      unfold pX8_sheet_l56
      have ei : i = 40 := by omega
      rw [ei] at h2 ⊢
      exact ⟨fun _ => h z1 h1 h2, fun c => absurd (by decide) c⟩
    | succ n ih =>
      intro i z1 hi h1 h2
      rw [sh_s]
      unfold pX8_sheet_l56
      have e1 : (40 : Int32) * nI y + nI i = nI (40 * y + i) := by rw [show (40 : Int32) = nI 40 from rfl, pk_mul, nI_add]
      rw [e1, nI_clamp (by omega)]
      refine ⟨fun c => absurd c (nI_ge (a := i) (b := 40) (by omega) (by decide)), fun _ => ⟨vp_in_nI (by omega) (by decide), fun z2 e2 x hx => ?_⟩⟩
      rw [hx, nI_1]
      refine ih (i + 1) z2 (by omega) (fun c hc => by rw [e2, mw_n _ _ _ hc]; exact h1 c hc) (fun k => ?_)
      rw [e2, mw_g]
      by_cases q : k = 40 * y + i
      · rw [if_pos ⟨rfl, q⟩, if_pos (by omega)]
      · rw [if_neg (fun w => q w.2), h2]
        by_cases q2 : 40 * y ≤ k ∧ k < 40 * y + i
        · rw [if_pos q2, if_pos (by omega)]
        · rw [if_neg q2, if_neg (by omega)]
  exact ⟨41, key 40 0 z (by omega) (fun _ _ => rfl) (fun k => by rw [if_neg (by omega)])⟩
set_option maxHeartbeats 2000000 in
theorem q_sheet {zx zm : MX} (h : Rel zx zm) (x w s : Int32) : pX7_sheet zx x w s (fun r zx1 => pX8_sheet zm x w s (fun r2 zm1 => r = r2 ∧ Rel zx1 zm1)) := by
  have h0 := h
  obtain ⟨A, a, b, c, d, e, f, g, i, j, k⟩ := h
  unfold pX7_sheet pX8_sheet
  rcases ix x (n := 4) (by decide) with hx | ⟨y, hy, rfl⟩
  · exact cSheetN hx ⟨fun _ => cInN zm 3 (by decide) (by decide) hx ⟨fun _ => ⟨rfl, h0⟩, fun q => absurd rfl q⟩, fun q => absurd rfl q⟩
  · refine cSheetY hy ⟨fun q => absurd q (by decide), fun _ => ?_⟩
    have inn : ∀ p : Int32 → MX → Prop, p 1 zm → pX8_in zm (nI y).toInt64 0 3 p := fun p hp => cInY zm 3 (by decide) (by decide) (by omega) hp
    rcases ix w (n := 3) (by decide) with hw | ⟨v, hv, rfl⟩
    · exact cLaneN hw ⟨fun _ => inn _ ⟨fun q => absurd q (by decide), fun _ => cInN zm 2 (by decide) (by decide) hw ⟨fun _ => ⟨rfl, h0⟩, fun q => absurd rfl q⟩⟩, fun q => absurd rfl q⟩
    · have inn2 : ∀ p : Int32 → MX → Prop, p 1 zm → pX8_in zm (nI v).toInt64 0 2 p := fun p hp => cInY zm 2 (by decide) (by decide) (by omega) hp
      refine cLaneY hv ⟨fun q => absurd q (by decide), fun _ => ⟨fun s1 => ⟨fun s2 => ⟨vp_in_nI (by omega) (by decide), ?_⟩, fun s2 => inn _ ⟨fun q => absurd q (by decide), fun _ => inn2 _ ⟨fun q => absurd q (by decide), fun _ => ⟨fun _ => ⟨fun q => absurd q s2, fun _ => ⟨rfl, h0⟩⟩, fun q => absurd s1 q⟩⟩⟩⟩, fun s1 => inn _ ⟨fun q => absurd q (by decide), fun _ => inn2 _ ⟨fun q => absurd q (by decide), fun _ => ⟨fun q => absurd q s1, fun _ => ⟨rfl, h0⟩⟩⟩⟩⟩⟩
      obtain ⟨n, hn, rfl⟩ : ∃ n, n ≤ 40 ∧ s = nI n := by
        rcases ix s (n := 41) (by decide) with q | ⟨n, q1, q2⟩
        · rw [show nI 41 = (41 : Int32) from rfl] at q
          grind
        · exact ⟨n, by omega, q2⟩
      unfold pX3_renew
      rw [nI_clamp (by omega)]
      intro z1 e1 z2 e2 z3 e3
      refine inn _ ⟨fun q => absurd q (by decide), fun _ => inn2 _ ⟨fun q => absurd q (by decide), fun _ => ⟨fun _ => ⟨fun _ => ⟨vp_in_nI (by omega) (by decide), fun y1 g1 => ⟨vp_in_nI (by omega) (by decide), fun y2 g2 => sM_zero hy _ (fun y3 g3 g4 => ⟨rfl, h0.sheets (fun c hc => ?_) (fun c hc => ?_) (fun jj hj => ?_)⟩)⟩⟩, fun q => absurd s2 q⟩, fun q => absurd s1 q⟩⟩⟩
      · rw [e3, mf_ne _ _ (by omega), e2, e1, mw_n _ _ _ (by omega), mw_n _ _ _ (by omega)]
      · rw [g3 c (by omega), g2, g1, mw_n _ _ _ (by omega), mw_n _ _ _ (by omega)]
      · have r17 : y3.1 17 jj = if jj = y then nI v else zm.1 17 jj := by
          rw [g3 17 (by decide), g2, mw_n _ _ _ (by decide), g1, mw_g]
          by_cases q : jj = y
          · rw [if_pos ⟨rfl, q⟩, if_pos q]
          · rw [if_neg (fun w => q w.2), if_neg q]
        have r18 : y3.1 18 jj = if jj = y then nI n else zm.1 18 jj := by
          rw [g3 18 (by decide), g2, mw_g]
          by_cases q : jj = y
          · rw [if_pos ⟨rfl, q⟩, if_pos q]
          · rw [if_neg (fun w => q w.2), if_neg q, g1, mw_n _ _ _ (by decide)]
        have r19 : ∀ k, y3.1 19 k = if 40 * y ≤ k ∧ k < 40 * y + 40 then 0 else zm.1 19 k := fun k => by rw [g4, g2, g1, mw_n _ _ _ (by decide), mw_n _ _ _ (by decide)]
        rw [r17, r18]
        by_cases q : jj = y
        · subst q
          rw [if_pos rfl, if_pos rfl]
          refine Or.inr ⟨v, n, hv, hn, ?_, ?_, rfl, rfl, fun i hi => ?_⟩
          · rw [e3, mf_ne _ _ (by omega), e2, mw_k _ _ (by decide), e1, mw_s]
          · rw [e3, mf_ne _ _ (by omega), e2, mw_s]
          · rw [r19, if_pos (by omega), e3, mf_g, if_pos rfl, if_pos hi]
        · rw [if_neg q, if_neg q]
          have o1 : z3.1 (16 + 2 * jj) = zx.1 (16 + 2 * jj) := by rw [e3, mf_ne _ _ (by omega), e2, e1, mw_n _ _ _ (by omega), mw_n _ _ _ (by omega)]
          have o2 : z3.1 (17 + 2 * jj) = zx.1 (17 + 2 * jj) := by rw [e3, mf_ne _ _ (by omega), e2, e1, mw_n _ _ _ (by omega), mw_n _ _ _ (by omega)]
          rw [o1, o2]
          rcases g jj hj with g5 | ⟨l, m, l1, l2, g5, g6, g7, g8, g9⟩
          · exact Or.inl g5
          · refine Or.inr ⟨l, m, l1, l2, g5, g6, g7, g8, fun i hi => ?_⟩
            rw [r19, if_neg (by omega)]
            exact g9 i hi
/-- in a row of n -/
theorem inLY (z : MX) {j n : Nat} (hn : n < 2 ^ 31) (hj : j < n) {post : Int32 → MX → Prop} (h : post 1 z) : pX8_in z (nI j).toInt64 0 (nI n - 1).toInt64 post := by
  rw [nI_m1 (by omega)]
  exact s_iY z (lo := 0) (by decide) rfl (nI_pos' (by omega)) (nI_le (by omega) (by omega)) h
theorem inLN (z : MX) {x : Int32} {n : Nat} (hn : n < 2 ^ 31) (hx : x < 0 ∨ nI n ≤ x) {post : Int32 → MX → Prop} (h : post 0 z) : pX8_in z x.toInt64 0 (nI n - 1).toInt64 post := by
  by_cases e : n = 0
  · rw [e] at hx ⊢
    refine s_iN z (lo := 0) (hi := nI 0 - 1) (by decide) rfl ?_ h
    have : nI 0 - 1 = (-1 : Int32) := by decide
    rw [this]
    grind
  · rw [nI_m1 (by omega)]
    refine s_iN z (lo := 0) (by decide) rfl (hx.imp id (fun h => ?_)) h
    exact fa_of_nle (fun q => nI_ge (a := n - 1) (b := n) (by omega) (by omega) (Int32.le_trans h q))
theorem b8 (x : Int32) : (Int32.toInt8 x).toInt32 = (x <<< ((24 : Int32) &&& 31)) >>> ((24 : Int32) &&& 31) := by
  rw [show ((24 : Int32) &&& 31) = 24 by decide]
  apply Int32.toBitVec_inj.mp
  have a1 : ((Int32.toInt8 x).toInt32).toBitVec = (x.toBitVec.signExtend 8).signExtend 32 := rfl
  have a2 : ((x <<< (24 : Int32)) >>> (24 : Int32)).toBitVec = (x.toBitVec <<< (24 : Nat)).sshiftRight 24 := rfl
  rw [a1, a2]
  apply BitVec.eq_of_getLsbD_eq
  intro i hi
  rw [BitVec.getLsbD_signExtend, BitVec.getLsbD_sshiftRight, BitVec.msb_eq_getLsbD_last, BitVec.msb_eq_getLsbD_last]
  simp only [BitVec.getLsbD_signExtend, BitVec.getLsbD_shiftLeft]
  by_cases c : i < 8
  · have c1 : 24 + i < 32 := by omega
    have c2 : ¬ 32 ≤ i := by omega
    have c3 : ¬ 24 + i < 24 := by omega
    simp only [c, c1, c2, c3, hi, decide_true, decide_false, if_true, Bool.not_false, Bool.true_and, show 24 + i - 24 = i by omega]
  · have c1 : ¬ 24 + i < 32 := by omega
    have c2 : ¬ 32 ≤ i := by omega
    simp [c, c1, hi]
theorem b16 (x : Int32) : (Int32.toInt16 x).toInt32 = (x <<< ((16 : Int32) &&& 31)) >>> ((16 : Int32) &&& 31) := by
  rw [show ((16 : Int32) &&& 31) = 16 by decide]
  apply Int32.toBitVec_inj.mp
  have a1 : ((Int32.toInt16 x).toInt32).toBitVec = (x.toBitVec.signExtend 16).signExtend 32 := rfl
  have a2 : ((x <<< (16 : Int32)) >>> (16 : Int32)).toBitVec = (x.toBitVec <<< (16 : Nat)).sshiftRight 16 := rfl
  rw [a1, a2]
  apply BitVec.eq_of_getLsbD_eq
  intro i hi
  rw [BitVec.getLsbD_signExtend, BitVec.getLsbD_sshiftRight, BitVec.msb_eq_getLsbD_last, BitVec.msb_eq_getLsbD_last]
  simp only [BitVec.getLsbD_signExtend, BitVec.getLsbD_shiftLeft]
  by_cases c : i < 16
  · have c1 : 16 + i < 32 := by omega
    have c2 : ¬ 32 ≤ i := by omega
    have c3 : ¬ 16 + i < 16 := by omega
    simp only [c, c1, c2, c3, hi, decide_true, decide_false, if_true, Bool.not_false, Bool.true_and, show 16 + i - 16 = i by omega]
  · have c1 : ¬ 16 + i < 32 := by omega
    have c2 : ¬ 32 ≤ i := by omega
    simp [c, c1, hi]
theorem s_faultN {z : MX} {j : Nat} (h1 : z.1 (16 + 2 * j) 2 = -1) (w x : Int32) {post : Int32 → MX → Prop} (h : post 1 z) : pX3_faultAt j z w x post := by
  unfold pX3_faultAt pX3_isNothing
  exact ⟨fun q => absurd h1 q, fun _ => ⟨Or.inr rfl, fun q => absurd q (by decide), fun _ => h⟩⟩
theorem s_faultL {z : MX} {j n : Nat} (hn : n < 2 ^ 31) (h1 : z.1 (16 + 2 * j) 2 = nI n) {w x : Int32} (hw : w ≠ z.1 (16 + 2 * j) 1) {post : Int32 → MX → Prop} (h : post 3 z) : pX3_faultAt j z w x post := by
  unfold pX3_faultAt pX3_isNothing
  exact ⟨fun _ => ⟨Or.inl rfl, fun _ => ⟨fun q => absurd q hw, fun _ => h⟩, fun q => absurd rfl q⟩, fun q => absurd (h1.symm.trans q) (nI_neg hn _ (by decide))⟩
theorem s_faultX {z : MX} {j n : Nat} (hn : n < 2 ^ 31) (h1 : z.1 (16 + 2 * j) 2 = nI n) {w x : Int32} (hw : w = z.1 (16 + 2 * j) 1) (hx : x < 0 ∨ nI n ≤ x) {post : Int32 → MX → Prop} (h : post 2 z) : pX3_faultAt j z w x post := by
  unfold pX3_faultAt pX3_isNothing pX3_faultAt_b31
  refine ⟨fun _ => ⟨Or.inl rfl, fun _ => ⟨fun _ => ⟨fun _ => h, fun q => ⟨fun q2 => ?_, fun _ => h⟩⟩, fun q => absurd hw q⟩, fun q => absurd rfl q⟩, fun q => absurd (h1.symm.trans q) (nI_neg hn _ (by decide))⟩
  rw [h1] at q2
  grind
theorem s_faultO {z : MX} {j n k : Nat} (hn : n < 2 ^ 31) (h1 : z.1 (16 + 2 * j) 2 = nI n) {w : Int32} (hw : w = z.1 (16 + 2 * j) 1) (hk : k < n) {post : Int32 → MX → Prop} (h : post 0 z) : pX3_faultAt j z w (nI k) post := by
  unfold pX3_faultAt pX3_isNothing pX3_faultAt_b31
  refine ⟨fun _ => ⟨Or.inl rfl, fun _ => ⟨fun _ => ⟨fun q => absurd q (nI_pos (by omega)), fun q => ⟨fun _ => h, fun q2 => absurd ?_ q2⟩⟩, fun q => absurd hw q⟩, fun q => absurd rfl q⟩, fun q => absurd (h1.symm.trans q) (nI_neg hn _ (by decide))⟩
  rw [h1]
  exact nI_lt hk hn
theorem ShtR.put {zx zm : MX} (g : ShtR zx zm) {y : Nat} (hy : y < 4) {l n k : Nat} (hk : k < 40) (u : Int32) (h1 : l < 3) (h2 : n ≤ 40) (g5 : zx.1 (16 + 2 * y) 1 = nI l) (g6 : zx.1 (16 + 2 * y) 2 = nI n) (g7 : zm.1 17 y = nI l) (g8 : zm.1 18 y = nI n) (g9 : ∀ i, i < 40 → zx.1 (17 + 2 * y) i = zm.1 19 (40 * y + i)) : ShtR (mw zx (17 + 2 * y) k u) (mw zm 19 (40 * y + k) u) := by
  intro jj hj
  rw [mw_n zm _ _ (a := 17) (by decide), mw_n zm _ _ (a := 18) (by decide), mw_n zx _ _ (a := 16 + 2 * jj) (by omega)]
  by_cases q : jj = y
  · subst q
    refine Or.inr ⟨l, n, h1, h2, g5, g6, g7, g8, fun i hi => ?_⟩
    rw [mw_g, mw_g]
    by_cases e : i = k
    · rw [if_pos ⟨rfl, e⟩, if_pos ⟨rfl, by omega⟩]
    · rw [if_neg (fun w => e w.2), if_neg (by omega)]
      exact g9 i hi
  · rw [mw_n zx _ _ (a := 17 + 2 * jj) (by omega)]
    refine (g jj hj).imp id (fun ⟨l', n', a1, a2, a3, a4, a5, a6, a7⟩ => ⟨l', n', a1, a2, a3, a4, a5, a6, fun i hi => ?_⟩)
    rw [mw_k _ _ (by omega)]
    exact a7 i hi
set_option maxHeartbeats 2000000 in
theorem q_lay {zx zm : MX} (h : Rel zx zm) (x w s : Int32) : pX7_lay zx x w s (fun r zx1 => pX8_lay zm x w s (fun r2 zm1 => r = r2 ∧ Rel zx1 zm1)) := by
  have h0 := h
  obtain ⟨A, a, b, c, d, e, f, g, i, j, k⟩ := h
  unfold pX7_lay pX8_lay
  rcases ix x (n := 4) (by decide) with hx | ⟨y, hy, rfl⟩
  · exact cSheetN hx ⟨fun q => absurd rfl q, fun _ => cInN zm 3 (by decide) (by decide) hx ⟨fun q => absurd rfl q, fun _ => ⟨rfl, h0⟩⟩⟩
  · have inn : ∀ p : Int32 → MX → Prop, p 1 zm → pX8_in zm (nI y).toInt64 0 3 p := fun p hp => cInY zm 3 (by decide) (by decide) (by omega) hp
    refine cSheetY hy ⟨fun _ => ⟨vp_in_nI (by omega) (by decide), vp_in_nI (by omega) (by decide), ?_⟩, fun q => absurd q (by decide)⟩
    rw [nI_clamp (by omega)]
    rcases g y hy with ⟨g1, g2⟩ | ⟨l, n, l1, l2, g5, g6, g7, g8, g9⟩
    · exact s_faultN g1 _ _ ⟨fun q => absurd q (by decide), fun _ => inn _ ⟨fun _ => ⟨vp_in_nI (by omega) (by decide), fun q => absurd g2 q, fun _ => ⟨rfl, h0⟩⟩, fun q => absurd q (by decide)⟩⟩
    · have nl : ¬ zm.1 17 y = -4 := by rw [g7]; exact nI_neg (by omega) _ (by decide)
      rcases ix w (n := n) (by omega) with hw | ⟨m, hm, rfl⟩
      · refine s_faultX (n := n) (by omega) g6 rfl hw ⟨fun q => absurd q (by decide), fun _ => inn _ ⟨fun _ => ⟨vp_in_nI (by omega) (by decide), fun _ => ⟨vp_in_nI (by omega) (by decide), ?_⟩, fun q => absurd q nl⟩, fun q => absurd q (by decide)⟩⟩
        rw [g8]
        exact inLN zm (by omega) hw ⟨fun q => absurd rfl q, fun _ => ⟨rfl, h0⟩⟩
      · refine s_faultO (n := n) (by omega) g6 rfl hm ⟨fun _ => ⟨vp_in_nI (by omega) (by decide), ?_⟩, fun q => absurd rfl q⟩
        have eI : (40 : Int32) * nI y + nI m = nI (40 * y + m) := by rw [show (40 : Int32) = nI 40 from rfl, pk_mul, nI_add]
        have fin : ∀ u : Int32, (u = if l = 0 then (Int32.toInt8 s).toInt32 else if l = 1 then (Int32.toInt16 s).toInt32 else s) → ∀ z1, z1 = mw zx (17 + 2 * y) m u → pX8_in zm (nI y).toInt64 0 3 (fun (r6 : Int32) (z6 : MX) => ((¬ r6 = 0 → vp_in (nI y) 4 ∧ ((¬ (z6.1 17 y) = (-4 : Int32) → vp_in (nI y) 4 ∧ pX8_in z6 (Int32.toInt64 (nI m)) (0 : Int64) (Int32.toInt64 ((z6.1 18 y) - (1 : Int32))) (fun (r40 : Int32) (z40 : MX) => ((¬ r40 = 0 → vp_in (nI y) 4 ∧ ((¬ (z40.1 17 y) = 0 → vp_in (nI y) 4 ∧ ((¬ (z40.1 17 y) = (1 : Int32) → pX8_lay_b99 (fun r2 zm1 => (1 : Int32) = r2 ∧ Rel z1 zm1) z40 (((40 : Int32) * nI y) + nI m) s) ∧ ((z40.1 17 y) = (1 : Int32) → pX8_lay_b99 (fun r2 zm1 => (1 : Int32) = r2 ∧ Rel z1 zm1) z40 (((40 : Int32) * nI y) + nI m) ((s <<< ((16 : Int32) &&& 31)) >>> ((16 : Int32) &&& 31))))) ∧ ((z40.1 17 y) = 0 → pX8_lay_b99 (fun r2 zm1 => (1 : Int32) = r2 ∧ Rel z1 zm1) z40 (((40 : Int32) * nI y) + nI m) ((s <<< ((24 : Int32) &&& 31)) >>> ((24 : Int32) &&& 31))))) ∧ (r40 = 0 → (1 : Int32) = (-12 : Int32) ∧ Rel z1 z40)))) ∧ ((z6.1 17 y) = (-4 : Int32) → (1 : Int32) = (-11 : Int32) ∧ Rel z1 z6))) ∧ (r6 = 0 → (1 : Int32) = (-1 : Int32) ∧ Rel z1 z6))) := by
          intro u hu z1 e1
          refine inn _ ⟨fun _ => ⟨vp_in_nI (by omega) (by decide), fun _ => ⟨vp_in_nI (by omega) (by decide), ?_⟩, fun q => absurd q nl⟩, fun q => absurd q (by decide)⟩
          rw [g8]
          refine inLY zm (by omega) hm ⟨fun _ => ⟨vp_in_nI (by omega) (by decide), ?_⟩, fun q => absurd q (by decide)⟩
          have wr : ∀ u2, u2 = u → pX8_lay_b99 (fun r2 zm1 => (1 : Int32) = r2 ∧ Rel z1 zm1) zm (((40 : Int32) * nI y) + nI m) u2 := by
            intro u2 hu2
            unfold pX8_lay_b99
            rw [eI, nI_clamp (by omega)]
            refine ⟨vp_in_nI (by omega) (by decide), fun y1 g1 => ⟨rfl, ?_⟩⟩
            rw [e1, g1, hu2]
            exact h0.sheets (fun c hc => mw_n _ _ _ (by omega)) (fun c hc => mw_n _ _ _ (by omega)) (g.put hy (by omega) u l1 l2 g5 g6 g7 g8 g9)
          rw [g7]
          refine ⟨fun q => ⟨vp_in_nI (by omega) (by decide), fun q2 => wr _ ?_, fun q2 => wr _ ?_⟩, fun q => wr _ ?_⟩
          · rw [hu, if_neg (fun e => q (by rw [e]; rfl)), if_neg (fun e => q2 (by rw [e]; rfl))]
          · have e1 : l = 1 := (nI_eq (b := 1) (by omega) (by decide)).mp q2
            rw [hu, if_neg (by omega), if_pos e1, b16]
          · have e1 : l = 0 := (nI_eq (b := 0) (by omega) (by decide)).mp q
            rw [hu, if_pos e1, b8]
        unfold pX3_put
        rw [g5, nI_clamp (n := m) (by omega)]
        refine ⟨fun q => ⟨fun q2 => ⟨vp_in_nI (by omega) (by decide), fun z1 e1 => fin _ ?_ z1 e1⟩, fun q2 => ⟨vp_in_nI (by omega) (by decide), fun z1 e1 => fin _ ?_ z1 e1⟩⟩, fun q => ⟨vp_in_nI (by omega) (by decide), fun z1 e1 => fin _ ?_ z1 e1⟩⟩
        · rw [if_neg (fun e => q (by rw [e]; rfl)), if_neg (fun e => q2 (by rw [e]; rfl))]
        · have e1 : l = 1 := (nI_eq (b := 1) (by omega) (by decide)).mp q2
          rw [if_neg (by omega), if_pos e1]
        · have e1 : l = 0 := (nI_eq (b := 0) (by omega) (by decide)).mp q
          rw [if_pos e1]
