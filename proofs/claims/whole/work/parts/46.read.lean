/-! read -/
theorem rd_s56 (post : Int32 → MX → Prop) (n : Nat) : pX7_read_L56 post (n + 1) = pX7_read_l56 (pX7_read_L56 post n) post := rfl
theorem rd_s55 (post : Int32 → MX → Prop) (n : Nat) : pX8_read_L55 post (n + 1) = pX8_read_l55 (pX8_read_L55 post n) post := rfl
/-- but for omens -/
def OL (A B : AL) : Prop := B 0 = A 0 ∧ B 2 = A 2 ∧ B 3 = A 3
theorem OL.o {A B : AL} (h : OL A B) (b v : Nat) : OL A (Au B 1 b v) := by
  obtain ⟨h1, h2, h3⟩ := h
  refine ⟨?_, ?_, ?_⟩
  · rw [← h1]; funext k; rw [Au_g, if_neg (by omega)]
  · rw [← h2]; funext k; rw [Au_g, if_neg (by omega)]
  · rw [← h3]; funext k; rw [Au_g, if_neg (by omega)]
/-- the reference while it reads -/
def RdM (zm y : MX) (B : AL) : Prop := NMx (fun k => k < 25) zm y ∧ (∀ k, k < 25 → y.1 1 (75 + k) = zm.1 1 k) ∧ LM y B
theorem sM_restore75 {zm y4 : MX} (n : NMx (fun k => k < 25) zm y4) (t : ∀ k, k < 25 → y4.1 1 (75 + k) = zm.1 1 k) (post : MX → Prop) (h : ∀ y, NM zm y → post y) : pX8_copies y4 (nI 75) (nI 0) post := by
  refine sM_copies (by omega) (by omega) (by omega) _ (fun y a1 a2 a3 => h y ⟨fun c hc => by rw [a1 c (by omega)]; exact n.1 c hc, fun k hk => by rw [a1 0 (by decide)]; exact n.2.1 k hk, fun k hk => ?_⟩)
  rw [a3]
  by_cases c : 0 ≤ k ∧ k < 0 + 25
  · rw [if_pos c, show 75 + (k - 0) = 75 + k by omega]
    exact t k (by omega)
  · rw [if_neg c]
    exact n.2.2 k hk (by omega)
/-- how the reading ends, on both sides -/
theorem rd_end {zx zm z y : MX} {A B : AL} (h : Rel zx zm) (a : AOK A) (d : ImgR A zx zm) (hB : AOK B) (hO : OL A B) (hn : NX zx z) (hL : LX 1 z B) (hm : RdM zm y B) (v : Int32) {post : MX → Prop} (hp : ∀ z1 y1, y1 = mw y 0 44 v → Rel z1 y1 → post z1) : pX0_copyFrom 0 1 z (fun z142 => ∀ z148, z148 = mw z142 38 11 v → post z148) := by
  refine sX_copy (by decide) hL hB.2.2.2.1 hB.2.2.1 _ (fun z1 f1 q1 z2 e2 => hp z2 _ rfl ?_)
  obtain ⟨A', _, _, _, _, e, f, g, i, j, k⟩ := h
  obtain ⟨m1, m2, m3⟩ := hm
  have cx : ∀ c, 8 ≤ c ∧ c ≤ 23 ∨ c = 25 ∨ 34 ≤ c ∧ c ≤ 36 ∨ c = 40 → z2.1 c = zx.1 c := fun c hc => by rw [e2, mw_n _ _ _ (by omega), f1.1 c (by omega)]; exact hn.1 c (by omega)
  have cy : ∀ c, c ≠ 0 → (mw y 0 44 v).1 c = y.1 c := fun c hc => mw_n _ _ _ hc
  refine ⟨B, hB, q1.cells (fun c _ _ => by rw [e2, mw_n _ _ _ (by omega)]), m3.cells (fun k hk => by rw [mw_k _ _ (by omega)]) (fun c _ _ => cy c (by omega)), ?_, ?_, ?_, ?_, ?_, ?_, ?_⟩
  · have dB : ImgR B zx zm := by
      intro k hk
      obtain ⟨u1, u2⟩ := d k hk
      refine ⟨u1, u2.imp id (fun ⟨u3, A2, a1, a2, a3⟩ => ⟨u3, A2, a1, ?_, a3⟩)⟩
      unfold SameL at a2 ⊢
      rw [hO.1, hO.2.1]
      exact a2
    exact dB.e (cx 40 (by omega)) (fun c _ _ => cx c (by omega)) (by rw [cy 16 (by decide)]; exact m1.1 16 (by omega)) (fun k h1 h2 => by rw [cy 1 (by decide)]; exact m1.2.2 k h2 (by omega))
  · exact e.e (by rw [e2, mw_n _ _ _ (by decide), f1.1 24 (by omega)]; exact hn.2.1) (cx 25 (by omega)) (by rw [mw_k _ _ (by decide)]; exact m1.2.1 15 (by omega)) (by rw [cy 6 (by decide)]; exact m1.1 6 (by omega))
  · exact f.e (by rw [e2, mw_n _ _ _ (by decide), f1.1 33 (by omega)]; exact hn.2.2) (fun c _ _ => cx c (by omega)) (by rw [mw_k _ _ (by decide)]; exact m1.2.1 37 (by omega)) (by rw [cy 14 (by decide)]; exact m1.1 14 (by omega))
  · exact g.e (fun c _ _ => cx c (by omega)) (fun c _ _ => by rw [cy c (by omega)]; exact m1.1 c (by omega))
  · exact i.e (by rw [cy 7 (by decide)]; exact m1.1 7 (by omega)) (by rw [cy 8 (by decide)]; exact m1.1 8 (by omega))
  · rw [e2, mw_k _ _ (by decide), f1.1 38 (by omega), hn.1 38 (by omega), mw_k _ _ (by decide), m1.2.1 16 (by omega)]; exact j
  · rw [e2, mw_s, mw_s]
theorem rd_in {Q : Int32 → MX → Prop} {y : MX} {j l N n c k m : Nat} {f : Int32} (hn : n ≤ 20) (hk : k < 2 * n) (hj : j < 4) (hl : l < 3) (hN : N ≤ 40) (h17 : y.1 17 j = nI l) (h18 : y.1 18 j = nI N) (em : f.toInt64 + (nI k).toInt64 = (nI m).toInt64) (hm : m < N) (h : ∃ q, pX8_read_b125 (pX8_read_L55 Q q) Q y (nI j) (nI l) f (nI n) (nI c) (nI k) 0) : ∃ q, pX8_read_L55 Q q y (nI j) (nI l) f (nI n) 0 (nI c) (nI k) := by
  obtain ⟨q, h⟩ := h
  refine ⟨q + 1, ?_⟩
  rw [rd_s55]
  unfold pX8_read_l55
  have e2 : (2 : Int32) * nI n = nI (2 * n) := by rw [show (2 : Int32) = nI 2 from rfl, pk_mul]
  rw [e2, nI_clamp (by omega), h17, h18, em]
  refine ⟨fun w => absurd w (nI_ge hk (by omega)), fun _ => ⟨fun w => absurd rfl w, fun _ => ⟨vp_in_nI (by omega) (by decide), fun _ => ⟨vp_in_nI (by omega) (by decide), fun _ => ⟨vp_in_nI (by omega) (by decide), inLY y (by omega) hm ⟨fun _ => h, fun w => absurd w (by decide)⟩⟩, fun w => absurd rfl w⟩, fun w => absurd w (nI_neg (by omega) _ (by decide))⟩⟩⟩
theorem rd_flt {Q : Int32 → MX → Prop} {y : MX} {j c k n : Nat} {l f v : Int32} (hk : k < 2 * n) (hn : n ≤ 20) (hv : v ≠ 0) (h : ∀ y1, y1 = mw y 0 44 v → Q (nI c) y1) : pX8_read_b125 (pX8_read_L55 Q 1) Q y (nI j) l f (nI n) (nI c) (nI k) v := by
  unfold pX8_read_b125 pX8_read_b190
  refine ⟨fun _ x hx => ?_, fun w => absurd w hv⟩
  rw [rd_s55]
  unfold pX8_read_l55 pX8_read_b196
  exact ⟨fun _ => h, fun _ => ⟨fun _ => h, fun w => absurd w hv⟩⟩
/-- a fault at index k -/
theorem rd_bad {Q : Int32 → MX → Prop} {y : MX} {j c k n : Nat} {l f v : Int32} (hn : n ≤ 20) (hk : k < 2 * n) (hj : j < 4) (hv : v ≠ 0) (hcause : (v = 1 ∧ y.1 17 j = -4) ∨ (y.1 17 j ≠ -4 ∧ v = 3 ∧ y.1 17 j ≠ l) ∨ (y.1 17 j ≠ -4 ∧ v = 2 ∧ y.1 17 j = l ∧ ∃ N x, N ≤ 40 ∧ y.1 18 j = nI N ∧ f.toInt64 + (nI k).toInt64 = Int32.toInt64 x ∧ (x < 0 ∨ nI N ≤ x))) (h : ∀ y1, y1 = mw y 0 44 v → Q (nI c) y1) : ∃ q, pX8_read_L55 Q q y (nI j) l f (nI n) 0 (nI c) (nI k) := by
  refine ⟨2, ?_⟩
  rw [rd_s55]
  unfold pX8_read_l55
  have e2 : (2 : Int32) * nI n = nI (2 * n) := by rw [show (2 : Int32) = nI 2 from rfl, pk_mul]
  rw [e2, nI_clamp (by omega)]
  have fl := rd_flt (j := j) (l := l) (f := f) hk hn hv h
  refine ⟨fun w => absurd w (nI_ge hk (by omega)), fun _ => ⟨fun w => absurd rfl w, fun _ => ⟨vp_in_nI (by omega) (by decide), fun w => ⟨vp_in_nI (by omega) (by decide), fun w2 => ⟨vp_in_nI (by omega) (by decide), ?_⟩, fun w2 => ?_⟩, fun w => ?_⟩⟩⟩
  · rcases hcause with ⟨_, c2⟩ | ⟨_, _, c2⟩ | ⟨_, c1, _, N, x, n1, n2, n3, n4⟩
    · exact absurd c2 w
    · exact absurd w2 c2
    · rw [n2, n3]
      rw [c1] at fl
      exact inLN y (by omega) n4 ⟨fun w => absurd rfl w, fun _ => fl⟩
  · rcases hcause with ⟨_, c2⟩ | ⟨_, c1, c2⟩ | ⟨_, _, c2, _⟩
    · exact absurd c2 w
    · rw [c1] at fl; exact fl
    · exact absurd c2 w2
  · rcases hcause with ⟨c1, _⟩ | ⟨c1, _⟩ | ⟨c1, _⟩
    · rw [c1] at fl; exact fl
    · exact absurd w c1
    · exact absurd w c1
theorem rd_done {Q : Int32 → MX → Prop} {y : MX} {j c n : Nat} {l f : Int32} (hn : n ≤ 20) (h : ∀ y1, y1 = mw y 0 44 0 → Q (nI c) y1) : ∃ q, pX8_read_L55 Q q y (nI j) l f (nI n) 0 (nI c) (nI (2 * n)) := by
  refine ⟨1, ?_⟩
  rw [rd_s55]
  unfold pX8_read_l55 pX8_read_b196
  have e2 : (2 : Int32) * nI n = nI (2 * n) := by rw [show (2 : Int32) = nI 2 from rfl, pk_mul]
  rw [e2]
  exact ⟨fun _ => h, fun w => absurd (nI_le (Nat.le_refl _) (by omega)) w⟩
theorem even_r {k : Nat} (hk : k < 2 ^ 31) : nI k - nI k / (2 : Int32) * (2 : Int32) = nI (k % 2) := pk_rem (d := 2) hk (by decide) (by decide)
/-- what hanging a pair on both sides comes to -/
theorem hg_both {B : AL} (hB : AOK B) (x v : Int32) : (∃ r : Int32, r < 0 ∧ (∀ i z post, LX i z B → post r z → pX0_tryToHang i z x v post) ∧ (∀ y post, LM y B → post r y → pX8_hangs y x v post)) ∨ (∃ b o, b < B 0 0 ∧ o < 5 ∧ (∀ i z post, LX i z B → (∀ z1, z1 = mw z (4 * i + 1) b (nI o) → post (nI (B 1 b)) z1) → pX0_tryToHang i z x v post) ∧ (∀ y post, LM y B → (∀ y1, y1 = mw y 1 b (nI o) → post (nI (B 1 b)) y1) → pX8_hangs y x v post)) := by
  have hBl := hB.2.1
  rcases ix x (n := B 0 0) (by omega) with hx | ⟨b, hb, rfl⟩
  · exact Or.inl ⟨-1, by decide, fun i z post hL h => sX_hangN1 hL hx v h, fun y post hL h => sM_hangN1 hL hB hx v h⟩
  · rcases ix v (n := 5) (by decide) with hv | ⟨o, ho, rfl⟩
    · exact Or.inl ⟨-1, by decide, fun i z post hL h => sX_hangN2 hL hB hb hv h, fun y post hL h => sM_hangN2 hL hB hb hv h⟩
    · by_cases c : lkd B b o
      · exact Or.inl ⟨-2, by decide, fun i z post hL h => sX_hangL hL hB hb ho c h, fun y post hL h => sM_hangL hL hB hb ho c h⟩
      · exact Or.inr ⟨b, o, hb, ho, fun i z post hL h => sX_hangY hL hB hb ho c h, fun y post hL h => sM_hangY hL hB hb ho c h⟩
set_option maxHeartbeats 4000000 in
theorem q_read {zx zm : MX} (h : Rel zx zm) (x w f s : Int32) : pX7_read zx x w f s (fun r zx1 => pX8_read zm x w f s (fun r2 zm1 => r = r2 ∧ Rel zx1 zm1)) := by
  have h0 := h
  obtain ⟨A, a, b, c, d, e, ff, g, i, j, k⟩ := h
  have hT := a.2.2.1
  unfold pX7_read
  rcases ix x (n := 4) (by decide) with hx | ⟨y, hy, rfl⟩
  · unfold pX8_read
    exact cSheetN hx ⟨fun _ => cInN zm 3 (by decide) (by decide) hx ⟨fun _ => ⟨rfl, h0⟩, fun q => absurd rfl q⟩, fun q => absurd rfl q⟩
  refine cSheetY hy ⟨fun q => absurd q (by decide), fun _ => ?_⟩
  have inn : ∀ p : Int32 → MX → Prop, p 1 zm → pX8_in zm (nI y).toInt64 0 3 p := fun p hp => cInY zm 3 (by decide) (by decide) (by omega) hp
  rcases ix w (n := 3) (by decide) with hw | ⟨v, hv, rfl⟩
  · unfold pX8_read
    exact cLaneN hw ⟨fun _ => inn _ ⟨fun q => absurd q (by decide), fun _ => cInN zm 2 (by decide) (by decide) hw ⟨fun _ => ⟨rfl, h0⟩, fun q => absurd rfl q⟩⟩, fun q => absurd rfl q⟩
  have inn2 : ∀ p : Int32 → MX → Prop, p 1 zm → pX8_in zm (nI v).toInt64 0 2 p := fun p hp => cInY zm 2 (by decide) (by decide) (by omega) hp
  refine cLaneY hv ⟨fun q => absurd q (by decide), fun _ => ?_⟩
  rcases ix s (n := 21) (by decide) with hs | ⟨n, hn, rfl⟩
  · unfold pX8_read
    have bad : ∀ p : Int32 → MX → Prop, p 0 zm → pX8_in zm s.toInt64 0 20 p := fun p hp => cInN zm 20 (by decide) (by decide) hs hp
    have go : ∀ p : Int32 → MX → Prop, p (-1) zm → pX8_in zm (nI y).toInt64 0 3 (fun r6 z6 => (r6 = 0 → p (-1) z6) ∧ (¬ r6 = 0 → pX8_in z6 (nI v).toInt64 0 2 (fun r18 z18 => (r18 = 0 → p (-1) z18) ∧ (¬ r18 = 0 → pX8_in z18 s.toInt64 0 20 (fun r31 z31 => (¬ r31 = 0 → pX8_copies z31 0 75 (fun z43 => ∃ n, pX8_read_L55 p n z43 (nI y) (nI v) f s 0 0 0)) ∧ (r31 = 0 → p (-1) z31)))))) := fun p hp => inn _ ⟨fun q => absurd q (by decide), fun _ => inn2 _ ⟨fun q => absurd q (by decide), fun _ => bad _ ⟨fun q => absurd rfl q, fun _ => hp⟩⟩⟩
    refine ⟨fun _ => go (fun r2 zm1 => (-1 : Int32) = r2 ∧ Rel zx zm1) ⟨rfl, h0⟩, fun q1 => ⟨fun q2 => ?_, fun _ => go (fun r2 zm1 => (-1 : Int32) = r2 ∧ Rel zx zm1) ⟨rfl, h0⟩⟩⟩
    rw [show nI 21 = (21 : Int32) from rfl] at hs
    grind
  refine ⟨fun q => absurd q (nI_pos (by omega)), fun _ => ⟨fun _ => ⟨vp_in_nI (by omega) (by decide), ?_⟩, fun q => absurd (nI_le (a := n) (b := 20) (by omega) (by decide)) q⟩⟩
  -- the reference, up to its loop
  have F0 : ∀ Q : Int32 → MX → Prop, (∀ y1, RdM zm y1 A → ∃ q, pX8_read_L55 Q q y1 (nI y) (nI v) f (nI n) 0 (nI 0) (nI (2 * 0))) → pX8_read zm (nI y) (nI v) f (nI n) Q := by
    intro Q hQ
    unfold pX8_read
    refine inn _ ⟨fun q => absurd q (by decide), fun _ => inn2 _ ⟨fun q => absurd q (by decide), fun _ => cInY zm 20 (by decide) (by decide) (by omega) ⟨fun _ => ?_, fun q => absurd q (by decide)⟩⟩⟩
    refine sM_copies (p := 0) (q := 75) (by omega) (by omega) (by omega) _ (fun y1 a1 a2 a3 => ?_)
    have nm : NM zm y1 := ⟨fun c hc => a1 c (by omega), fun k _ => by rw [a1 0 (by decide)], fun k hk => by rw [a3, if_neg (by omega)]⟩
    exact hQ y1 ⟨nm.x, fun k hk => by rw [a3, if_pos (by omega), show 0 + (75 + k - 75) = k by omega], c.N nm hT⟩
  refine sX_copy (by decide) b a.2.2.2.1 hT _ (fun z1 f1 q1 => ?_)
  rw [nI_clamp (n := y) (by omega)]
  -- both ways of ending
  have fin : ∀ (B : AL) (cc k : Nat) (u : Int32) (z : MX), AOK B → OL A B → NX zx z → LX 1 z B → (∀ Q : Int32 → MX → Prop, (∀ y1, RdM zm y1 B → ∃ q, pX8_read_L55 Q q y1 (nI y) (nI v) f (nI n) 0 (nI cc) (nI k)) → pX8_read zm (nI y) (nI v) f (nI n) Q) → (∀ Q y1, RdM zm y1 B → (∀ y2, y2 = mw y1 0 44 u → Q (nI cc) y2) → ∃ q, pX8_read_L55 Q q y1 (nI y) (nI v) f (nI n) 0 (nI cc) (nI k)) → pX7_read_b134 (fun r zx1 => pX8_read zm (nI y) (nI v) f (nI n) (fun r2 zm1 => r = r2 ∧ Rel zx1 zm1)) z u (nI cc) := by
    intro B cc k u z hB hO hn2 hL hF hE
    unfold pX7_read_b134
    refine sX_copy (by decide) hL hB.2.2.2.1 hB.2.2.1 _ (fun z2 f2 q2 z3 e3 => hF _ (fun y1 m1 => hE _ y1 m1 (fun y2 g2 => ⟨rfl, ?_⟩)))
    have := rd_end (post := fun z1 => Rel z1 (mw y1 0 44 u)) h0 a d hB hO hn2 hL m1 u (fun z1 y3 g3 hr => by rw [← g3]; exact hr)
    rw [g2]
    -- the same copy
    obtain ⟨A', _, _, _, _, e', ff', g', i', j', k'⟩ := h0
    obtain ⟨m1, m2, m3⟩ := m1
    have cx : ∀ c, 8 ≤ c ∧ c ≤ 23 ∨ c = 25 ∨ 34 ≤ c ∧ c ≤ 36 ∨ c = 40 → z3.1 c = zx.1 c := fun c hc => by rw [e3, mw_n _ _ _ (by omega), f2.1 c (by omega)]; exact hn2.1 c (by omega)
    have cy : ∀ c, c ≠ 0 → (mw y1 0 44 u).1 c = y1.1 c := fun c hc => mw_n _ _ _ hc
    refine ⟨B, hB, q2.cells (fun c _ _ => by rw [e3, mw_n _ _ _ (by omega)]), m3.cells (fun k hk => by rw [mw_k _ _ (by omega)]) (fun c _ _ => cy c (by omega)), ?_, ?_, ?_, ?_, ?_, ?_, ?_⟩
    · have dB : ImgR B zx zm := by
        intro k hk
        obtain ⟨u1, u2⟩ := d k hk
        refine ⟨u1, u2.imp id (fun ⟨u3, A2, a1, a2, a3⟩ => ⟨u3, A2, a1, ?_, a3⟩)⟩
        unfold SameL at a2 ⊢
        rw [hO.1, hO.2.1]
        exact a2
      exact dB.e (cx 40 (by omega)) (fun c _ _ => cx c (by omega)) (by rw [cy 16 (by decide)]; exact m1.1 16 (by omega)) (fun k h1 h2 => by rw [cy 1 (by decide)]; exact m1.2.2 k h2 (by omega))
    · exact e'.e (by rw [e3, mw_n _ _ _ (by decide), f2.1 24 (by omega)]; exact hn2.2.1) (cx 25 (by omega)) (by rw [mw_k _ _ (by decide)]; exact m1.2.1 15 (by omega)) (by rw [cy 6 (by decide)]; exact m1.1 6 (by omega))
    · exact ff'.e (by rw [e3, mw_n _ _ _ (by decide), f2.1 33 (by omega)]; exact hn2.2.2) (fun c _ _ => cx c (by omega)) (by rw [mw_k _ _ (by decide)]; exact m1.2.1 37 (by omega)) (by rw [cy 14 (by decide)]; exact m1.1 14 (by omega))
    · exact g'.e (fun c _ _ => cx c (by omega)) (fun c _ _ => by rw [cy c (by omega)]; exact m1.1 c (by omega))
    · exact i'.e (by rw [cy 7 (by decide)]; exact m1.1 7 (by omega)) (by rw [cy 8 (by decide)]; exact m1.1 8 (by omega))
    · rw [e3, mw_k _ _ (by decide), f2.1 38 (by omega), hn2.1 38 (by omega), mw_k _ _ (by decide), m1.2.1 16 (by omega)]; exact j'
    · rw [e3, mw_s, mw_s]
  -- the class behind a fault
  have flt : ∀ (B : AL) (cc k : Nat) (u : Int32) (z : MX) (i8 : Int32) (q : Nat), u ≠ 0 → AOK B → OL A B → NX zx z → LX 1 z B → (∀ Q : Int32 → MX → Prop, (∀ y1, RdM zm y1 B → ∃ q, pX8_read_L55 Q q y1 (nI y) (nI v) f (nI n) 0 (nI cc) (nI k)) → pX8_read zm (nI y) (nI v) f (nI n) Q) → (∀ Q y1, RdM zm y1 B → (∀ y2, y2 = mw y1 0 44 u → Q (nI cc) y2) → ∃ q, pX8_read_L55 Q q y1 (nI y) (nI v) f (nI n) 0 (nI cc) (nI k)) → pX7_read_b128 (pX7_read_L56 (fun r zx1 => pX8_read zm (nI y) (nI v) f (nI n) (fun r2 zm1 => r = r2 ∧ Rel zx1 zm1)) (q + 1)) (fun r zx1 => pX8_read zm (nI y) (nI v) f (nI n) (fun r2 zm1 => r = r2 ∧ Rel zx1 zm1)) z (nI v) f (nI n) y u (nI cc) i8 := by
    intro B cc k u z i8 q hu hB hO hn2 hL hF hE
    unfold pX7_read_b128
    intro t ht
    rw [rd_s56]
    unfold pX7_read_l56
    have := fin B cc k u z hB hO hn2 hL hF hE
    exact ⟨fun _ => this, fun _ => ⟨fun _ => this, fun w => absurd w hu⟩⟩
  by_cases n0 : n = 0
  · -- no pairs
    subst n0
    refine ⟨1, ?_⟩
    rw [rd_s56]
    unfold pX7_read_l56
    refine ⟨fun _ => ?_, fun w => absurd (by decide) w⟩
    exact fin A 0 0 0 z1 a ⟨rfl, rfl, rfl⟩ (NX.of f1 (by omega)) q1 F0 (fun Q y1 m1 hq => rd_done (n := 0) (c := 0) (by omega) hq)
  rcases g y hy with ⟨g1, g2⟩ | ⟨l, N, l1, l2, g5, g6, g7, g8, g9⟩
  · -- nothing
    refine ⟨2, ?_⟩
    rw [rd_s56]
    unfold pX7_read_l56
    refine ⟨fun w => absurd w (nI_ge (a := 0) (b := n) (by omega) (by omega)), fun _ => ⟨fun w => absurd rfl w, fun _ u hu => ?_⟩⟩
    unfold pX3_faultOfPair
    have c1 : z1.1 (16 + 2 * y) 2 = -1 := by rw [f1.1 _ (by omega)]; exact g1
    refine s_faultN c1 _ _ ⟨fun w => absurd w (by decide), fun _ => ⟨fun _ => ?_, fun w => absurd w (by decide)⟩⟩
    exact flt A 0 0 1 z1 _ 0 (by decide) a ⟨rfl, rfl, rfl⟩ (NX.of f1 (by omega)) q1 F0 (fun Q y1 m1 hq => rd_bad (by omega) (k := 0) (by omega) hy (by decide) (Or.inl ⟨rfl, by rw [m1.1.1 17 (by omega)]; exact g2⟩) hq)
  have nl : ¬ zm.1 17 y = -4 := by rw [g7]; exact nI_neg (by omega) _ (by decide)
  have cs : ∀ z, NX zx z → z.1 (16 + 2 * y) = zx.1 (16 + 2 * y) := fun z hz => hz.1 _ (by omega)
  have cs2 : ∀ z, NX zx z → z.1 (17 + 2 * y) = zx.1 (17 + 2 * y) := fun z hz => hz.1 _ (by omega)
  by_cases lv : l = v
  case neg =>
    -- another lane
    refine ⟨2, ?_⟩
    rw [rd_s56]
    unfold pX7_read_l56
    refine ⟨fun w => absurd w (nI_ge (a := 0) (b := n) (by omega) (by omega)), fun _ => ⟨fun w => absurd rfl w, fun _ u hu => ?_⟩⟩
    unfold pX3_faultOfPair
    have n1 : NX zx z1 := NX.of f1 (by omega)
    have ne : nI v ≠ nI l := fun w => lv ((nI_eq (by omega) (by omega)).mp w).symm
    refine s_faultL (n := N) (by omega) (by rw [cs z1 n1]; exact g6) (by rw [cs z1 n1, g5]; exact ne) ⟨fun w => absurd w (by decide), fun _ => ⟨fun _ => ?_, fun w => absurd w (by decide)⟩⟩
    exact flt A 0 0 3 z1 _ 0 (by decide) a ⟨rfl, rfl, rfl⟩ n1 q1 F0 (fun Q y1 m1 hq => rd_bad (by omega) (k := 0) (by omega) hy (by decide) (Or.inr (Or.inl ⟨by rw [m1.1.1 17 (by omega)]; exact nl, rfl, by rw [m1.1.1 17 (by omega), g7]; exact fun w => ne w.symm⟩)) hq)
  subst lv
  rcases ix f (n := N) (by omega) with hf | ⟨p, hp, rfl⟩
  · -- from outside
    refine ⟨2, ?_⟩
    rw [rd_s56]
    unfold pX7_read_l56
    refine ⟨fun w => absurd w (nI_ge (a := 0) (b := n) (by omega) (by omega)), fun _ => ⟨fun w => absurd rfl w, fun _ u hu => ?_⟩⟩
    have eu : u = f := by rw [hu]; show f + 2 * 0 = f; grind
    rw [eu]
    unfold pX3_faultOfPair
    have n1 : NX zx z1 := NX.of f1 (by omega)
    refine s_faultX (n := N) (by omega) (by rw [cs z1 n1]; exact g6) (by rw [cs z1 n1, g5]) hf ⟨fun w => absurd w (by decide), fun _ => ⟨fun _ => ?_, fun w => absurd w (by decide)⟩⟩
    refine flt A 0 0 2 z1 _ 0 (by decide) a ⟨rfl, rfl, rfl⟩ n1 q1 F0 (fun Q y1 m1 hq => rd_bad (by omega) (k := 0) (by omega) hy (by decide) (Or.inr (Or.inr ⟨by rw [m1.1.1 17 (by omega)]; exact nl, rfl, by rw [m1.1.1 17 (by omega), g7], N, f, l2, by rw [m1.1.1 18 (by omega)]; exact g8, ?_, hf⟩)) hq)
    show f.toInt64 + (0 : Int32).toInt64 = _
    rw [show (0 : Int32).toInt64 = 0 from rfl, Int64.add_zero]
  -- from p
  have key : ∀ q m B z, m + q = n → NX zx z → LX 1 z B → AOK B → OL A B → (∀ Q : Int32 → MX → Prop, (∀ y1, RdM zm y1 B → ∃ q, pX8_read_L55 Q q y1 (nI y) (nI l) (nI p) (nI n) 0 (nI m) (nI (2 * m))) → pX8_read zm (nI y) (nI l) (nI p) (nI n) Q) → pX7_read_L56 (fun r zx1 => pX8_read zm (nI y) (nI l) (nI p) (nI n) (fun r2 zm1 => r = r2 ∧ Rel zx1 zm1)) (q + 1 + 1) z (nI l) (nI p) (nI n) y (0 : Int32) (nI m) (nI m) := by
    intro q
    induction q with
    | zero =>
      intro m B z hm hn2 hL hB hO hF
      have em : m = n := by omega
      subst em
      rw [rd_s56]
      unfold pX7_read_l56
      refine ⟨fun _ => ?_, fun w => absurd (nI_le (Nat.le_refl _) (by omega)) w⟩
      exact fin B m (2 * m) 0 z hB hO hn2 hL hF (fun Q y1 m1 hq => rd_done (by omega) hq)
    | succ q ih =>
      intro m B z hm hn2 hL hB hO hF
      rw [rd_s56]
      unfold pX7_read_l56
      refine ⟨fun w => absurd w (nI_ge (by omega) (by omega)), fun _ => ⟨fun w => absurd rfl w, fun _ u hu => ?_⟩⟩
      have eu : u = nI (p + 2 * m) := by rw [hu, show (2 : Int32) = nI 2 from rfl, pk_mul, nI_add]
      rw [eu]
      have e64 : ∀ k, k < 1000 → (nI p).toInt64 + (nI k).toInt64 = (nI (p + k)).toInt64 := fun k hk => by rw [nI_l (by omega), nI_l (by omega), nI_l (by omega), lN_add]
      unfold pX3_faultOfPair
      rw [nI_1]
      have z2 : z.1 (16 + 2 * y) 2 = nI N := by rw [cs z hn2]; exact g6
      have zl : nI l = z.1 (16 + 2 * y) 1 := by rw [cs z hn2, g5]
      have y17 : ∀ y1, RdM zm y1 B → y1.1 17 y = nI l := fun y1 m1 => by rw [m1.1.1 17 (by omega)]; exact g7
      have y18 : ∀ y1, RdM zm y1 B → y1.1 18 y = nI N := fun y1 m1 => by rw [m1.1.1 18 (by omega)]; exact g8
      have nl4 : nI l ≠ -4 := nI_neg (by omega) _ (by decide)
      by_cases o1 : p + 2 * m < N
      case neg =>
        have hx : nI (p + 2 * m) < 0 ∨ nI N ≤ nI (p + 2 * m) := Or.inr (nI_le (by omega) (by omega))
        refine s_faultX (n := N) (by omega) z2 zl hx ⟨fun w => absurd w (by decide), fun _ => ⟨fun _ => ?_, fun w => absurd w (by decide)⟩⟩
        exact flt B m (2 * m) 2 z _ (q + 1) (by decide) hB hO hn2 hL hF (fun Q y1 m1 hq => rd_bad (by omega) (k := 2 * m) (by omega) hy (by decide) (Or.inr (Or.inr ⟨by rw [y17 y1 m1]; exact nl4, rfl, y17 y1 m1, N, _, l2, y18 y1 m1, e64 (2 * m) (by omega), hx⟩)) hq)
      refine s_faultO (n := N) (by omega) z2 zl o1 ⟨fun _ => ?_, fun w => absurd rfl w⟩
      -- the reference steps over the first of the pair
      have step1 : ∀ (Q : Int32 → MX → Prop) (y1 : MX), RdM zm y1 B → (∃ q, pX8_read_L55 Q q y1 (nI y) (nI l) (nI p) (nI n) 0 (nI m) (nI (2 * m + 1))) → ∃ q, pX8_read_L55 Q q y1 (nI y) (nI l) (nI p) (nI n) 0 (nI m) (nI (2 * m)) := by
        intro Q y1 m1 ⟨q, hq⟩
        refine rd_in (by omega) (by omega) hy l1 l2 (y17 y1 m1) (y18 y1 m1) (e64 (2 * m) (by omega)) o1 ⟨q, ?_⟩
        unfold pX8_read_b125 pX8_read_b190
        rw [even_r (by omega), show 2 * m % 2 = 0 by omega]
        refine ⟨fun w => absurd rfl w, fun _ => ⟨by decide, fun _ t ht => ?_, fun w => absurd w (by decide)⟩⟩
        rw [ht, nI_1]
        exact hq
      by_cases o2 : p + 2 * m + 1 < N
      case neg =>
        have hx : nI (p + 2 * m + 1) < 0 ∨ nI N ≤ nI (p + 2 * m + 1) := Or.inr (nI_le (by omega) (by omega))
        refine s_faultX (n := N) (by omega) z2 zl hx ?_
        refine ⟨fun _ => ?_, fun w => absurd w (by decide)⟩
        exact flt B m (2 * m) 2 z _ (q + 1) (by decide) hB hO hn2 hL hF (fun Q y1 m1 hq => step1 Q y1 m1 (rd_bad (by omega) (k := 2 * m + 1) (by omega) hy (by decide) (Or.inr (Or.inr ⟨by rw [y17 y1 m1]; exact nl4, rfl, y17 y1 m1, N, _, l2, y18 y1 m1, e64 (2 * m + 1) (by omega), hx⟩)) hq))
      refine s_faultO (n := N) (by omega) z2 zl o2 ?_
      refine ⟨fun w => absurd rfl w, fun _ => ⟨vp_in_nI (by omega) (by decide), vp_in_nI (by omega) (by decide), ?_⟩⟩
      rw [nI_clamp (by omega), nI_clamp (by omega), cs2 z hn2, g9 _ (by omega), g9 _ (by omega)]
      -- the reference hangs the pair
      have step2 : ∀ (Q : Int32 → MX → Prop) (y1 : MX), RdM zm y1 B → (∃ q, pX8_hangs y1 (zm.1 19 (40 * y + (p + 2 * m))) (zm.1 19 (40 * y + (p + 2 * m + 1))) (fun (r168 : Int32) (z168 : MX) => ((0 ≤ r168 → ∃ q2, q2 = q ∧ pX8_read_L55 Q q z168 (nI y) (nI l) (nI p) (nI n) 0 (nI (m + 1)) (nI (2 * (m + 1)))) ∧ (¬ 0 ≤ r168 → pX8_copies z168 (75 : Int32) (0 : Int32) (fun (z178 : MX) => Q ((-20 : Int32) - nI m) z178))))) → ∃ q, pX8_read_L55 Q q y1 (nI y) (nI l) (nI p) (nI n) 0 (nI m) (nI (2 * m)) := by
        intro Q y1 m1 ⟨q, hq⟩
        refine step1 Q y1 m1 (rd_in (by omega) (by omega) hy l1 l2 (y17 y1 m1) (y18 y1 m1) (e64 (2 * m + 1) (by omega)) (by omega) ⟨q, ?_⟩)
        unfold pX8_read_b125 pX8_read_b190
        rw [even_r (by omega), show (2 * m + 1) % 2 = 1 by omega]
        refine ⟨fun w => absurd rfl w, fun _ => ⟨by decide, fun w => absurd rfl w, fun _ t ht => ?_⟩⟩
        have et : t = nI (40 * y + (p + 2 * m + 1)) := by
          rw [ht, show (40 : Int32) = nI 40 from rfl, pk_mul, nI_add, nI_add]
          congr 1
          omega
        have et1 : nI (40 * y + (p + 2 * m + 1)) - 1 = nI (40 * y + (p + 2 * m)) := nI_pred _
        rw [et, et1, nI_clamp (by omega), nI_clamp (by omega), m1.1.1 19 (by omega)]
        refine ⟨vp_in_nI (by omega) (by decide), vp_in_nI (by omega) (by decide), ?_⟩
        have e3 : (fun (r168 : Int32) (z168 : MX) => ((0 ≤ r168 → ∀ x6_187 : Int32, x6_187 = nI m + (1 : Int32) → ∀ x7_190 : Int32, x7_190 = nI (2 * m + 1) + (1 : Int32) → pX8_read_L55 Q q z168 (nI y) (nI l) (nI p) (nI n) 0 x6_187 x7_190) ∧ (¬ 0 ≤ r168 → pX8_copies z168 (75 : Int32) (0 : Int32) (fun (z178 : MX) => Q ((-20 : Int32) - nI m) z178)))) = (fun (r168 : Int32) (z168 : MX) => ((0 ≤ r168 → ∃ q2, q2 = q ∧ pX8_read_L55 Q q z168 (nI y) (nI l) (nI p) (nI n) 0 (nI (m + 1)) (nI (2 * (m + 1)))) ∧ (¬ 0 ≤ r168 → pX8_copies z168 (75 : Int32) (0 : Int32) (fun (z178 : MX) => Q ((-20 : Int32) - nI m) z178)))) := by
          funext r zz
          refine propext ⟨fun h => ⟨fun hr => ⟨q, rfl, ?_⟩, h.2⟩, fun h => ⟨fun hr a1 h1 a2 h2 => ?_, h.2⟩⟩
          · have := h.1 hr (nI (m + 1)) (nI_1 m).symm (nI (2 * (m + 1))) (by rw [nI_1, show 2 * (m + 1) = 2 * m + 1 + 1 by omega])
            exact this
          · obtain ⟨_, _, h3⟩ := h.1 hr
            rw [h1, h2, nI_1, nI_1]
            exact h3
        rw [e3]
        exact hq
      rcases hg_both hB (zm.1 19 (40 * y + (p + 2 * m))) (zm.1 19 (40 * y + (p + 2 * m + 1))) with ⟨r, hr, hx1, hm1⟩ | ⟨bb, o, hbb, ho, hx1, hm1⟩
      · have hr0 : ¬ 0 ≤ r := fun w => Int32.lt_irrefl (fa_trans hr w)
        refine hx1 1 z _ hL ⟨fun w => absurd w hr0, fun _ => hF _ (fun y1 m1 => step2 _ y1 m1 ⟨0, hm1 y1 _ m1.2.2 ⟨fun w => absurd w hr0, fun _ => ?_⟩⟩)⟩
        exact sM_restore75 m1.1 m1.2.1 _ (fun y2 n2 => ⟨rfl, h0.N hn2 n2⟩)
      · have hB6 := hB.2.2.2.2.2.1 bb (by have := hB.2.1; omega)
        have hB8 := hB.2.1
        have hr0 : 0 ≤ nI (B 1 bb) := nI_pos' (by omega)
        refine hx1 1 z _ hL (fun z3 e3 => ⟨fun _ t ht => ?_, fun w => absurd hr0 w⟩)
        unfold pX7_read_b128
        intro t2 ht2
        rw [ht, ht2, nI_1]
        refine ih (m + 1) (Au B 1 bb o) z3 (by omega) (by rw [e3]; exact hn2.mw _ _ (by omega)) (by rw [e3]; exact hL.o _ _) (hB.o hbb ho) (hO.o _ _) (fun Q hQ => hF Q (fun y1 m1 => ?_))
        have m2 : RdM zm (mw y1 1 bb (nI o)) (Au B 1 bb o) := ⟨m1.1.put _ (Or.inl (by show bb < 25; omega)), fun k hk => by rw [mw_k _ _ (by omega)]; exact m1.2.1 k hk, m1.2.2.o o (by omega)⟩
        obtain ⟨q2, hq2⟩ := hQ _ m2
        exact step2 Q y1 m1 ⟨q2, hm1 y1 _ m1.2.2 (fun y2 g2 => ⟨fun _ => ⟨q2, rfl, by rw [g2]; exact hq2⟩, fun w => absurd hr0 w⟩)⟩
  exact ⟨n + 1 + 1, key n 0 A z1 (by omega) (NX.of f1 (by omega)) q1 a ⟨rfl, rfl, rfl⟩ F0⟩
