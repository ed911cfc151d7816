/-! mean, luck -/
theorem bm_s15 (post : Int64 → MX → Prop) (n : Nat) : pX8_byMagpies_L15 post (n + 1) = pX8_byMagpies_l15 (pX8_byMagpies_L15 post n) post := rfl
theorem bm_s62 (post : Int64 → MX → Prop) (n : Nat) : pX8_byMagpies_L62 post (n + 1) = pX8_byMagpies_l62 (pX8_byMagpies_L62 post n) post := rfl
theorem bm_s87 (r : MX → Int32 → Int32 → Int32 → Int32 → Int64 → Int64 → Int32 → Prop) (post : Int64 → MX → Prop) (n : Nat) : pX8_byMagpies_L87 r post (n + 1) = pX8_byMagpies_l87 r (pX8_byMagpies_L87 r post n) post := rfl
theorem n2_1 {a : Nat} (ha : a < 2) : nI a = nI 1 ↔ a = 1 := nI_eq (by omega) (by decide)
theorem nI_1' (b : Nat) : nI b + nI 1 = nI (b + 1) := nI_add b 1
def gdN (A : AL) (v m : Nat) : Nat := Nat.gcd (upN A v m (2 ^ A 0 0)) (wtN (obN (A 1) 8) 0 0 (A 0 0))
def frN (A : AL) (v m w : Nat) : Int64 := if w = 0 then lN (upN A v m (2 ^ A 0 0)) / lN (gdN A v m) else lN (wtN (obN (A 1) 8) 0 0 (A 0 0)) / lN (gdN A v m)
theorem gd_b {A : AL} (hA : AOK A) {v : Nat} (hv : v ≤ 10) (m : Nat) : upN A v m (2 ^ A 0 0) < 2 ^ 63 ∧ wtN (obN (A 1) 8) 0 0 (A 0 0) < 2 ^ 63 ∧ 0 < gdN A v m ∧ gdN A v m < 2 ^ 63 := by
  have hP := pow_le8 _ hA.2.1
  have h1 := upN_le hA hv m (2 ^ A 0 0)
  have h2 : 2 ^ A 0 0 * (10 ^ 8 * 4320) ≤ 256 * (10 ^ 8 * 4320) := Nat.mul_le_mul_right _ hP
  have h3 := Nat.le_trans (wtN_le (obN (A 1) 8) 0 (v := 0) (by decide) (A 0 0)) (p10 _ hA.2.1)
  have h4 := wtN_pos (obN (A 1) 8) (A 0 0)
  have h5 : gdN A v m ≤ wtN (obN (A 1) 8) 0 0 (A 0 0) := Nat.gcd_le_right _ h4
  have h6 : 0 < gdN A v m := Nat.gcd_pos_of_pos_right _ h4
  refine ⟨by omega, by omega, h6, by omega⟩
set_option maxHeartbeats 4000000 in
theorem sM_by {zm : MX} {A : AL} (c : LM zm A) (a : AOK A) {v m w : Nat} (hv : v ≤ 10) (hm : m < 2) (hw : w < 2) (post : Int64 → MX → Prop) (h : ∀ zm1, NM zm zm1 → post (frN A v m w) zm1) : pX8_byMagpies zm (nI v) (nI m) (nI w) post := by
  have hB := a.2.1
  have hP := pow_le8 _ hB
  have hO : obN (A 1) 8 < 256 := obN_lt _ 8
  obtain ⟨g1, g2, g3, g4⟩ := gd_b a hv m
  unfold pX8_byMagpies
  refine sM_omens c a _ ?_
  have k62 : ∀ n k y2, k + n = 2 ^ A 0 0 → NM zm y2 → (∀ k, k < 25 → y2.1 1 (100 + k) = zm.1 1 k) → pX8_byMagpies_L62 post (n + 1) y2 (nI v) (nI m) (nI w) (nI (obN (A 1) 8)) (lN (upN A v m k)) (lN (wtN (obN (A 1) 8) 0 0 (A 0 0))) (nI k) := by
    intro n
    induction n with
    | zero =>
      intro k y2 hk n2 t2
      rw [bm_s62]
      unfold pX8_byMagpies_l62
      rw [(c.N n2 a.2.2.1).1, shlN (by omega)]
      have ek : k = 2 ^ A 0 0 := by omega
      rw [ek]
      refine ⟨fun _ => ?_, fun c => absurd (nI_le (Nat.le_refl _) (by omega)) c⟩
      unfold pX8_lowest
      refine sM_gcd _ _ _ _ _ _ g1 g2 (fun g hg => ?_)
      have hn : ¬ lN g = 0 := fun q => by
        have := (pk_lEQ (a := g) (b := 0) (by rw [hg]; exact g4) (by decide)).mp q
        rw [hg] at this
        exact absurd g3 (by show ¬ 0 < Nat.gcd _ _; omega)
      have hp := h y2 n2
      unfold frN at hp
      have eg : gdN A v m = g := hg.symm
      rw [eg] at hp
      unfold pX8_lowest_b41
      refine ⟨fun q => ⟨hn, ?_⟩, fun q => ⟨hn, ?_⟩⟩
      · rw [if_neg (fun e => q (by rw [e]; rfl))] at hp; exact hp
      · rw [if_pos ((nI_eq (b := 0) (by omega) (by decide)).mp q)] at hp; exact hp
    | succ n ih =>
      intro k y2 hk n2 t2
      rw [bm_s62]
      unfold pX8_byMagpies_l62
      have c2 := c.N n2 a.2.2.1
      rw [c2.1, shlN (by omega)]
      unfold pX8_byMagpies_b194
      refine ⟨fun c => absurd c (nI_ge (by omega) (by omega)), fun _ => ⟨fun d x hx => ?_, fun d => ⟨A 0 0 + 1, ?_⟩⟩⟩
      · have ihk := ih (k + 1) y2 (by omega) n2 t2
        rw [upN_s, if_neg d, Nat.add_zero] at ihk
        rw [hx, nI_1]; exact ihk
      have inn : ∀ q b, b + q = A 0 0 → pX8_byMagpies_L87 (pX8_byMagpies_L62 post (n + 1)) post (q + 1) y2 (nI v) (nI m) (nI w) (nI (obN (A 1) 8)) (lN (upN A v m k)) (lN (wtN (obN (A 1) 8) 0 0 (A 0 0))) (nI k) (lN (wtN (obN (A 1) 8) k v b)) (nI b) := by
        intro q
        induction q with
        | zero =>
          intro b hb
          rw [bm_s87]
          unfold pX8_byMagpies_l87
          have eb : b = A 0 0 := by omega
          rw [c2.1, eb]
          refine ⟨fun _ => sM_magpies c2 a (by omega) _ (fun y3 a1 a2 q3 => sM_run q3 (a.m k).R _ (fun y4 f4 r4 _ => ?_)), fun c => absurd (nI_le (Nat.le_refl _) (by omega)) c⟩
          have n3 : NMx (fun k => k < 25) zm y3 := ⟨fun c hc => by rw [a1 c (by omega)]; exact n2.1 c hc, fun q hq => by rw [a1 0 (by decide)]; exact n2.2.1 q hq, fun q hq hp => by rw [a2 q (by omega)]; exact n2.2.2 q hq⟩
          have n4 := n3.run f4
          have t4 : ∀ k, k < 25 → y4.1 1 (100 + k) = zm.1 1 k := fun k hk => by rw [f4.1 1 (by decide) (by decide), a2 _ (by omega)]; exact t2 k hk
          have fin : ∀ u : Nat, u ≤ 4320 → u = vlN A k m → pX8_byMagpies_b182 (pX8_byMagpies_L62 post (n + 1)) post y4 (nI v) (nI m) (nI w) (nI (obN (A 1) 8)) (lN (wtN (obN (A 1) 8) 0 0 (A 0 0))) (nI k) (lN (upN A v m k)) (lN (wtN (obN (A 1) 8) k v (A 0 0))) (nI u) := by
            intro u hu eu
            unfold pX8_byMagpies_b182 pX8_byMagpies_b194
            intro x hx
            refine sM_restore n4 t4 _ (fun y5 n5 t5 s hs => ?_)
            have ihk := ih (k + 1) y5 (by omega) n5 t5
            rw [upN_s, if_pos d, ← eu] at ihk
            rw [hs, nI_1, hx, nI_l (by omega), lN_mul, lN_add]
            exact ihk
          rw [r4.2.2.2.1]
          refine ⟨fun e => ?_, fun e => ?_⟩
          · have em : m = 0 := (nI_eq (b := 0) (by omega) (by decide)).mp e
            refine ⟨fun d => fin 0 (by decide) ?_, fun d => fin 1 (by decide) ?_⟩
            · unfold vlN; rw [if_neg (by omega), if_neg d]
            · unfold vlN; rw [if_neg (by omega), if_pos d]
          · have em : m = 1 := by
              have : m ≠ 0 := fun q => e (by rw [q]; rfl)
              omega
            refine sM_cost (q3.fr f4) (a.m k).R r4 _ ?_
            obtain ⟨cs1, cs2⟩ := cstN_e (a.m k).R
            rw [cs1]
            exact fin _ cs2 (by unfold vlN; rw [if_pos em])
        | succ q ihq =>
          intro b hb
          rw [bm_s87]
          unfold pX8_byMagpies_l87
          rw [c2.1, bitN (by omega) (by omega), bitN (by omega) (by omega), show (1 : Int32) = nI 1 from rfl, n2_1 (by omega), n2_1 (by omega)]
          unfold pX8_byMagpies_b134
          have ihb := ihq (b + 1) (by omega)
          rw [wtN_s] at ihb
          refine ⟨fun c => absurd c (nI_ge (by omega) (by omega)), fun _ => ⟨fun d => ⟨fun e x hx s hs => ?_, fun e x hx s hs => ?_⟩, fun d x hx s hs => ?_⟩⟩
          · rw [if_neg d, if_neg e] at ihb
            rw [hx, hs, show (10 : Int32) = nI 10 from rfl, pk_sub (by omega), nI_l (by omega), lN_mul, nI_1]
            exact ihb
          · rw [if_neg d, if_pos e] at ihb
            rw [hx, hs, nI_l (by omega), lN_mul, nI_1]
            exact ihb
          · rw [if_pos d] at ihb
            rw [hx, hs, show (1 : Int64) = lN 1 from rfl, lN_mul, nI_1]
            exact ihb
      exact inn (A 0 0) 0 (by omega)
  have k15 : ∀ n b, b + n = A 0 0 → pX8_byMagpies_L15 post (n + 1) zm (nI v) (nI m) (nI w) (nI (obN (A 1) 8)) (lN 0) (lN (wtN (obN (A 1) 8) 0 0 b)) (nI b) := by
    intro n
    induction n with
    | zero =>
      intro b hb
      rw [bm_s15]
      unfold pX8_byMagpies_l15
      have eb : b = A 0 0 := by omega
      rw [c.1, eb]
      refine ⟨fun _ => sM_save _ (fun y1 m1 t1 => ⟨2 ^ A 0 0 + 1, ?_⟩), fun c => absurd (nI_le (Nat.le_refl _) (by omega)) c⟩
      exact k62 (2 ^ A 0 0) 0 y1 (by omega) m1 t1
    | succ n ih =>
      intro b hb
      rw [bm_s15]
      unfold pX8_byMagpies_l15
      rw [c.1, bitN (by omega) (by omega), show (0 : Int32) = nI 0 from rfl, n2 (by omega) (by decide)]
      unfold pX8_byMagpies_b43
      have ihb := ih (b + 1) (by omega)
      rw [wtN_s] at ihb
      refine ⟨fun c => absurd c (nI_ge (by omega) (by omega)), fun _ => ⟨fun d x hx s hs => ?_, fun d x hx s hs => ?_⟩⟩
      · rw [if_pos (by omega)] at ihb
        rw [hx, hs, nI_1, show (1 : Int64) = lN 1 from rfl, lN_mul]
        exact ihb
      · rw [if_neg (by omega), if_neg (by rw [Nat.zero_div]; decide)] at ihb
        rw [hx, hs, nI_1, show (10 : Int64) = lN 10 from rfl, lN_mul]
        exact ihb
  exact ⟨A 0 0 + 1, k15 (A 0 0) 0 (by omega)⟩
theorem sX_frac {z : MX} {A : AL} (hA : AOK A) {v m w : Nat} (hv : v ≤ 10) (hw : w < 2) (post : Int64 → MX → Prop) (h : post (frN A v m w) z) : pX7_partOfFraction z (lN (upN A v m (2 ^ A 0 0))) (lN (wtN (obN (A 1) 8) 0 0 (A 0 0))) (nI w) post := by
  obtain ⟨g1, g2, g3, g4⟩ := gd_b hA hv m
  unfold pX7_partOfFraction pX7_commonDivisor
  refine sX_gcd 63 _ _ 0 (by omega) g1 g2 (by decide) _ ?_
  have e : Nat.gcd (upN A v m (2 ^ A 0 0)) (wtN (obN (A 1) 8) 0 0 (A 0 0)) = gdN A v m := rfl
  rw [e, lc_gt, l0, pk_lLT (by decide) g4, show (0 : Int32) = nI 0 from rfl, nI_eq (by omega) (by decide), pk_lEQ g4 (by decide)]
  unfold frN at h
  refine ⟨fun _ => ⟨fun q => ⟨by omega, ?_⟩, fun q => ⟨by omega, ?_⟩⟩, fun q => absurd g3 q⟩
  · rw [if_neg q] at h; exact h
  · rw [if_pos q] at h; exact h
set_option maxHeartbeats 2000000 in
theorem q_mean {zx zm : MX} (h : Rel zx zm) (x u : Int32) : pX7_mean zx x u (fun r zx1 => pX8_mean zm x u (fun r2 zm1 => r = r2 ∧ Rel zx1 zm1)) := by
  have h0 := h
  obtain ⟨A, a, b, c, d, e, f, g, i, j, k⟩ := h
  unfold pX7_mean pX8_mean
  rcases ix x (n := 11) (by decide) with hx | ⟨v, hv, rfl⟩
  · have bad : ∀ p : Int32 → MX → Prop, p 0 zm → pX8_in zm x.toInt64 0 10 p := fun p hp => cInN zm 10 (by decide) (by decide) hx hp
    refine ⟨fun _ => bad _ ⟨fun _ => ⟨rfl, h0⟩, fun q => absurd rfl q⟩, fun q1 => ⟨fun _ => bad _ ⟨fun _ => ⟨rfl, h0⟩, fun q => absurd rfl q⟩, fun q2 => ?_⟩⟩
    rw [show nI 11 = (11 : Int32) from rfl] at hx
    grind
  · refine ⟨fun q => absurd q (nI_pos (by omega)), fun _ => ⟨fun q => absurd q (nI_nlt (a := 10) (b := v) (by omega) (by omega)), fun _ => ?_⟩⟩
    have inn : ∀ p : Int32 → MX → Prop, p 1 zm → pX8_in zm (nI v).toInt64 0 10 p := fun p hp => cInY zm 10 (by decide) (by decide) (by omega) hp
    rcases ix u (n := 2) (by decide) with hu | ⟨w, hw, rfl⟩
    · exact c01N hu ⟨fun q => absurd rfl q, fun _ => inn _ ⟨fun q => absurd q (by decide), fun _ => cInN zm 1 (by decide) (by decide) hu ⟨fun _ => ⟨rfl, h0⟩, fun q => absurd rfl q⟩⟩⟩
    · refine c01Y hw ⟨fun _ => sX_weigh b a (by omega) _ (fun z1 n1 e0 e1 e2 => ?_), fun q => absurd q (by decide)⟩
      rw [e0, e1]
      refine sX_frac a (by omega) hw _ (inn _ ⟨fun q => absurd q (by decide), fun _ => cInY zm 1 (by decide) (by decide) (by omega) ⟨fun q => absurd q (by decide), fun _ => ?_⟩⟩)
      exact sM_by c a (by omega) (m := 1) (by decide) hw _ (fun zm1 m1 => ⟨rfl, h0.N n1 m1⟩)
set_option maxHeartbeats 2000000 in
theorem q_luck {zx zm : MX} (h : Rel zx zm) (x u : Int32) : pX7_luck zx x u (fun r zx1 => pX8_luck zm x u (fun r2 zm1 => r = r2 ∧ Rel zx1 zm1)) := by
  have h0 := h
  obtain ⟨A, a, b, c, d, e, f, g, i, j, k⟩ := h
  unfold pX7_luck pX8_luck
  rcases ix x (n := 11) (by decide) with hx | ⟨v, hv, rfl⟩
  · have bad : ∀ p : Int32 → MX → Prop, p 0 zm → pX8_in zm x.toInt64 0 10 p := fun p hp => cInN zm 10 (by decide) (by decide) hx hp
    refine ⟨fun _ => bad _ ⟨fun _ => ⟨rfl, h0⟩, fun q => absurd rfl q⟩, fun q1 => ⟨fun _ => bad _ ⟨fun _ => ⟨rfl, h0⟩, fun q => absurd rfl q⟩, fun q2 => ?_⟩⟩
    rw [show nI 11 = (11 : Int32) from rfl] at hx
    grind
  · refine ⟨fun q => absurd q (nI_pos (by omega)), fun _ => ⟨fun q => absurd q (nI_nlt (a := 10) (b := v) (by omega) (by omega)), fun _ => ?_⟩⟩
    have inn : ∀ p : Int32 → MX → Prop, p 1 zm → pX8_in zm (nI v).toInt64 0 10 p := fun p hp => cInY zm 10 (by decide) (by decide) (by omega) hp
    rcases ix u (n := 2) (by decide) with hu | ⟨w, hw, rfl⟩
    · exact c01N hu ⟨fun q => absurd rfl q, fun _ => inn _ ⟨fun q => absurd q (by decide), fun _ => cInN zm 1 (by decide) (by decide) hu ⟨fun _ => ⟨rfl, h0⟩, fun q => absurd rfl q⟩⟩⟩
    · refine c01Y hw ⟨fun _ => sX_weigh b a (by omega) _ (fun z1 n1 e0 e1 e2 => ?_), fun q => absurd q (by decide)⟩
      rw [e0, e2]
      refine sX_frac a (by omega) hw _ (inn _ ⟨fun q => absurd q (by decide), fun _ => cInY zm 1 (by decide) (by decide) (by omega) ⟨fun q => absurd q (by decide), fun _ => ?_⟩⟩)
      exact sM_by c a (by omega) (m := 0) (by decide) hw _ (fun zm1 m1 => ⟨rfl, h0.N n1 m1⟩)
