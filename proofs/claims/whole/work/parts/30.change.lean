/-! hang, guard, set -/
def lkd (A : AL) (b v : Nat) : Prop := v ≠ 0 ∧ ¬ (lwF A b (A 0 2) &&& nI (obN (A 1) 8)) = 0
theorem sX_hangN1 {i : Nat} {z : MX} {A : AL} (hL : LX i z A) {x : Int32} (hx : x < 0 ∨ nI (A 0 0) ≤ x) (o : Int32) {post : Int32 → MX → Prop} (h : post (-1) z) : pX0_tryToHang i z x o post := by
  unfold pX0_tryToHang
  exact sX_blkN hL hx ⟨fun _ => h, fun q => absurd rfl q⟩
theorem sX_hangN2 {i : Nat} {z : MX} {A : AL} (hL : LX i z A) (hA : AOK A) {b : Nat} (hb : b < A 0 0) {o : Int32} (ho : o < 0 ∨ nI 5 ≤ o) {post : Int32 → MX → Prop} (h : post (-1) z) : pX0_tryToHang i z (nI b) o post := by
  unfold pX0_tryToHang
  exact sX_blkY hL hA hb ⟨fun q => absurd q (by decide), fun _ => cOmenN ho ⟨fun q => absurd rfl q, fun _ => h⟩⟩
theorem sX_hangL {i : Nat} {z : MX} {A : AL} (hL : LX i z A) (hA : AOK A) {b v : Nat} (hb : b < A 0 0) (hv : v < 5) (hk : lkd A b v) {post : Int32 → MX → Prop} (h : post (-2) z) : pX0_tryToHang i z (nI b) (nI v) post := by
  have hB := hA.2.1
  unfold pX0_tryToHang
  refine sX_blkY hL hA hb ⟨fun q => absurd q (by decide), fun _ => cOmenY hv ⟨fun _ => ⟨fun q => absurd ((nI_eq (b := 0) (by omega) (by decide)).mp q) hk.1, fun _ => ?_⟩, fun q => absurd q (by decide)⟩⟩
  refine sX_lockedWith hL hA (by omega) _ (sX_omenBits hL.2.2.2.2.1 hA.2.2.2.2.2.1 _ ⟨fun q => absurd q hk.2, fun _ => h⟩)
theorem sX_hangY {i : Nat} {z : MX} {A : AL} (hL : LX i z A) (hA : AOK A) {b v : Nat} (hb : b < A 0 0) (hv : v < 5) (hk : ¬ lkd A b v) {post : Int32 → MX → Prop} (h : ∀ z1, z1 = mw z (4 * i + 1) b (nI v) → post (nI (A 1 b)) z1) : pX0_tryToHang i z (nI b) (nI v) post := by
  have hB := hA.2.1
  have b37 : pX0_tryToHang_b37 i post z (nI b) (nI v) := by
    unfold pX0_tryToHang_b37
    rw [nI_clamp (by omega), hL.2.2.2.2.1 b (by omega)]
    exact ⟨vp_in_nI (by omega) (by decide), fun x hx => ⟨vp_in_nI (by omega) (by decide), fun z1 e1 => by rw [hx]; exact h z1 e1⟩⟩
  unfold pX0_tryToHang
  refine sX_blkY hL hA hb ⟨fun q => absurd q (by decide), fun _ => cOmenY hv ⟨fun _ => ⟨fun _ => b37, fun q0 => ?_⟩, fun q => absurd q (by decide)⟩⟩
  refine sX_lockedWith hL hA (by omega) _ (sX_omenBits hL.2.2.2.2.1 hA.2.2.2.2.2.1 _ ⟨fun _ => b37, fun q => absurd ⟨fun e => q0 (by rw [e]; rfl), q⟩ hk⟩)
theorem sM_hangN1 {z : MX} {A : AL} (hL : LM z A) (hA : AOK A) {x : Int32} (hx : x < 0 ∨ nI (A 0 0) ≤ x) (o : Int32) {post : Int32 → MX → Prop} (h : post (-1) z) : pX8_hangs z x o post := by
  unfold pX8_hangs
  exact sM_blkN hL hA hx ⟨fun _ => h, fun q => absurd rfl q⟩
theorem sM_hangN2 {z : MX} {A : AL} (hL : LM z A) (hA : AOK A) {b : Nat} (hb : b < A 0 0) {o : Int32} (ho : o < 0 ∨ nI 5 ≤ o) {post : Int32 → MX → Prop} (h : post (-1) z) : pX8_hangs z (nI b) o post := by
  unfold pX8_hangs
  exact sM_blkY hL hA hb ⟨fun q => absurd q (by decide), fun _ => cInN z 4 (by decide) (by decide) ho ⟨fun q => absurd rfl q, fun _ => h⟩⟩
theorem sM_hangL {z : MX} {A : AL} (hL : LM z A) (hA : AOK A) {b v : Nat} (hb : b < A 0 0) (hv : v < 5) (hk : lkd A b v) {post : Int32 → MX → Prop} (h : post (-2) z) : pX8_hangs z (nI b) (nI v) post := by
  have hB := hA.2.1
  unfold pX8_hangs
  refine sM_blkY hL hA hb ⟨fun q => absurd q (by decide), fun _ => cInY z 4 (by decide) (by decide) (by omega) ⟨fun _ => ⟨fun q => absurd q (nI_nle (by have := hk.1; omega) (by omega)), fun _ => ?_⟩, fun q => absurd q (by decide)⟩⟩
  refine sM_lockedWith hL hA (by omega) _ (sM_omens hL hA _ ⟨fun q => absurd q hk.2, fun _ => h⟩)
theorem sM_hangY {z : MX} {A : AL} (hL : LM z A) (hA : AOK A) {b v : Nat} (hb : b < A 0 0) (hv : v < 5) (hk : ¬ lkd A b v) {post : Int32 → MX → Prop} (h : ∀ z1, z1 = mw z 1 b (nI v) → post (nI (A 1 b)) z1) : pX8_hangs z (nI b) (nI v) post := by
  have hB := hA.2.1
  have b42 : pX8_hangs_b42 post z (nI b) (nI v) := by
    unfold pX8_hangs_b42
    rw [nI_clamp (by omega), hL.2.2.2.2.1 b (by omega)]
    exact ⟨vp_in_nI (by omega) (by decide), fun x hx => ⟨vp_in_nI (by omega) (by decide), fun z1 e1 => by rw [hx]; exact h z1 e1⟩⟩
  unfold pX8_hangs
  refine sM_blkY hL hA hb ⟨fun q => absurd q (by decide), fun _ => cInY z 4 (by decide) (by decide) (by omega) ⟨fun _ => ⟨fun _ => b42, fun q0 => ?_⟩, fun q => absurd q (by decide)⟩⟩
  refine sM_lockedWith hL hA (by omega) _ (sM_omens hL hA _ ⟨fun _ => b42, fun q => absurd ⟨fun e => q0 (by rw [e]; decide), q⟩ hk⟩)
theorem q_hang {zx zm : MX} (h : Rel zx zm) (x w : Int32) : pX7_hang zx x w (fun r zx1 => pX8_hang zm x w (fun r2 zm1 => r = r2 ∧ Rel zx1 zm1)) := by
  have h0 := h
  obtain ⟨A, a, b, c, d, e, f, g, i, j, k⟩ := h
  have hB := a.2.1
  unfold pX7_hang pX8_hang
  rcases ix x (n := A 0 0) (by omega) with hx | ⟨y, hy, rfl⟩
  · exact sX_hangN1 b hx w (sM_hangN1 c a hx w ⟨rfl, h0⟩)
  · rcases ix w (n := 5) (by decide) with hw | ⟨v, hv, rfl⟩
    · exact sX_hangN2 b a hy hw (sM_hangN2 c a hy hw ⟨rfl, h0⟩)
    · by_cases l : lkd A y v
      · exact sX_hangL b a hy hv l (sM_hangL c a hy hv l ⟨rfl, h0⟩)
      · refine sX_hangY b a hy hv l (fun z1 e1 => sM_hangY c a hy hv l (fun y1 g1 => ⟨rfl, ?_⟩))
        rw [e1, g1]
        exact Rel.line (d.u (Or.inl rfl)) e f g i j k (a.o hy hv) (by decide) (by omega) (b.o y v) (c.o v (by omega))
theorem gd_or : ∀ g, g < 256 → ∀ b, b < 8 → nI g ||| nI (2 ^ b) = nI (g + (1 - g / 2 ^ b % 2) * 2 ^ b) ∧ (nI g &&& (nI (2 ^ b) ^^^ -1)) ||| nI (2 ^ b) = nI (g + (1 - g / 2 ^ b % 2) * 2 ^ b) ∧ g + (1 - g / 2 ^ b % 2) * 2 ^ b < 256 := by decide +kernel
theorem gd_and : ∀ g, g < 256 → ∀ b, b < 8 → (nI g &&& (nI (2 ^ b) ^^^ -1)) = nI (g - g / 2 ^ b % 2 * 2 ^ b) ∧ g - g / 2 ^ b % 2 * 2 ^ b < 256 := by decide +kernel
theorem q_guard {zx zm : MX} (h : Rel zx zm) (x w : Int32) : pX7_guard zx x w (fun r zx1 => pX8_guard zm x w (fun r2 zm1 => r = r2 ∧ Rel zx1 zm1)) := by
  have h0 := h
  obtain ⟨A, a, b, c, d, e, f, g, i, j, k⟩ := h
  have hB := a.2.1
  have hg := a.2.2.2.2.1
  unfold pX7_guard pX8_guard
  rcases ix x (n := A 0 0) (by omega) with hx | ⟨y, hy, rfl⟩
  · exact sX_blkN b hx ⟨fun q => absurd rfl q, fun _ => sM_blkN c a hx ⟨fun q => absurd rfl q, fun _ => ⟨rfl, h0⟩⟩⟩
  · refine sX_blkY b a hy ⟨fun _ => s_guarded b _ _ ?_, fun q => absurd q (by decide)⟩
    have fin : ∀ v, v = (nI (A 0 3) >>> (nI y &&& 31)) &&& 1 → pX7_guard_b29 (fun r zx1 => pX8_isBlock zm (nI y) (fun (r2 : Int32) (z2 : MX) => ((¬ r2 = 0 → vp_in (8 : Int32) 125 ∧ ∀ x3_21 : Int32, x3_21 = ((z2.1 1 (Int32.toNatClampNeg (8 : Int32))) >>> (nI y &&& 31)) &&& (1 : Int32) → vp_in (8 : Int32) 125 ∧ ((w = 0 → pX8_guard_b52 (fun r2 zm1 => r = r2 ∧ Rel zx1 zm1) z2 x3_21 (8 : Int32) ((z2.1 1 (Int32.toNatClampNeg (8 : Int32))) &&& (((1 : Int32) <<< (nI y &&& 31)) ^^^ (-1 : Int32))) (0 : Int32)) ∧ (¬ w = 0 → pX8_guard_b52 (fun r2 zm1 => r = r2 ∧ Rel zx1 zm1) z2 x3_21 (8 : Int32) ((z2.1 1 (Int32.toNatClampNeg (8 : Int32))) &&& (((1 : Int32) <<< (nI y &&& 31)) ^^^ (-1 : Int32))) ((1 : Int32) <<< (nI y &&& 31))))) ∧ (r2 = 0 → r = (-1 : Int32) ∧ Rel zx1 z2)))) zx (nI y) w v := by
      intro v hv
      unfold pX7_guard_b29 pX7_guard_b65
      rw [b.2.1, shlN (by omega)]
      obtain ⟨o1, o2, o3⟩ := gd_or _ hg y (by omega)
      obtain ⟨n1, n2⟩ := gd_and _ hg y (by omega)
      refine ⟨fun q z1 e1 => ?_, fun q z1 e1 => ?_⟩
      · refine sM_blkY c a hy ⟨fun _ => ⟨vp_in_nI (n := 8) (by omega) (by decide), fun u hu => ⟨vp_in_nI (n := 8) (by omega) (by decide), fun _ => ?_, fun q2 => absurd q q2⟩⟩, fun q => absurd q (by decide)⟩
        unfold pX8_guard_b52
        rw [show Int32.toNatClampNeg (8 : Int32) = 8 from rfl, c.2.2.2.1] at hu ⊢
        refine ⟨vp_in_nI (n := 8) (by omega) (by decide), fun y1 g1 => ⟨by rw [hv, hu], ?_⟩⟩
        rw [e1, g1, n1, Int32.or_zero]
        exact Rel.line (d.u (Or.inr (Or.inr ⟨rfl, rfl⟩))) e f g i j k (a.g n2) (by decide) (by omega) (b.g _) (c.g _)
      · refine sM_blkY c a hy ⟨fun _ => ⟨vp_in_nI (n := 8) (by omega) (by decide), fun u hu => ⟨vp_in_nI (n := 8) (by omega) (by decide), fun q2 => absurd q2 q, fun _ => ?_⟩⟩, fun q => absurd q (by decide)⟩
        unfold pX8_guard_b52
        rw [show Int32.toNatClampNeg (8 : Int32) = 8 from rfl, c.2.2.2.1] at hu ⊢
        refine ⟨vp_in_nI (n := 8) (by omega) (by decide), fun y1 g1 => ⟨by rw [hv, hu], ?_⟩⟩
        rw [e1, g1, o2, o1]
        exact Rel.line (d.u (Or.inr (Or.inr ⟨rfl, rfl⟩))) e f g i j k (a.g o3) (by decide) (by omega) (b.g _) (c.g _)
    refine ⟨fun q => fin 0 q.symm, fun q => fin 1 ?_⟩
    rcases pk_1or (x := nI (A 0 3) >>> (nI y &&& 31)) with e | e
    · exact absurd e q
    · exact e.symm
theorem xFact_fB : ∀ w, w < 4 → xFact w = nI (fB w) ∧ 1 ≤ fB w ∧ fB w ≤ 10 := by decide
theorem q_set {zx zm : MX} (h : Rel zx zm) (x w u : Int32) : pX7_set zx x w u (fun r zx1 => pX8_set zm x w u (fun r2 zm1 => r = r2 ∧ Rel zx1 zm1)) := by
  have h0 := h
  obtain ⟨A, a, b, c, d, e, f, g, i, j, k⟩ := h
  have hT := a.2.2.1
  unfold pX7_set pX8_set
  rcases ix x (n := A 0 1) (by omega) with hx | ⟨y, hy, rfl⟩
  · exact sX_trN b hx ⟨fun _ => sM_trN c a hx ⟨fun _ => ⟨rfl, h0⟩, fun q => absurd rfl q⟩, fun q => absurd rfl q⟩
  · refine sX_trY b a hy ⟨fun q => absurd q (by decide), fun _ => ?_⟩
    rcases ix w (n := 4) (by decide) with hw | ⟨v, hv, rfl⟩
    · exact cFactN hw ⟨fun _ => sM_trY c a hy ⟨fun q => absurd q (by decide), fun _ => cInN zm 3 (by decide) (by decide) hw ⟨fun _ => ⟨rfl, h0⟩, fun q => absurd rfl q⟩⟩, fun q => absurd rfl q⟩
    · refine cFactY hv ⟨fun q => absurd q (by decide), fun _ => ?_⟩
      obtain ⟨f1, f2, f3⟩ := xFact_fB v hv
      rw [nI_clamp (by omega), f1]
      -- the reference's question, by what
      have ask : ∀ (post : Int32 → MX → Prop), (∀ H, (nI (fB v - 1)).toInt64 = H → pX8_set_b45 post zm (nI y) (nI v) u u.toInt64 0 H) → pX8_isTrain zm (nI y) (fun (r2 : Int32) (z2 : MX) => ((r2 = 0 → post (-1 : Int32) z2) ∧ (¬ r2 = 0 → pX8_in z2 (Int32.toInt64 (nI v)) (0 : Int64) (3 : Int64) (fun (r14 : Int32) (z14 : MX) => ((r14 = 0 → post (-1 : Int32) z14) ∧ (¬ r14 = 0 → ((¬ nI v = 0 → ((¬ nI v = (1 : Int32) → pX8_set_b45 post z14 (nI y) (nI v) u (Int32.toInt64 u) (0 : Int64) (9 : Int64)) ∧ (nI v = (1 : Int32) → pX8_set_b45 post z14 (nI y) (nI v) u (Int32.toInt64 u) (0 : Int64) (1 : Int64)))) ∧ (nI v = 0 → pX8_set_b45 post z14 (nI y) (nI v) u (Int32.toInt64 u) (0 : Int64) (3 : Int64))))))))) := by
        intro post hp
        refine sM_trY c a hy ⟨fun q => absurd q (by decide), fun _ => cInY zm 3 (by decide) (by decide) (by omega) ⟨fun q => absurd q (by decide), fun _ => ?_⟩⟩
        refine ⟨fun q0 => ⟨fun q1 => ?_, fun q1 => ?_⟩, fun q0 => ?_⟩
        · have e0 : v ≠ 0 := fun e => q0 (by rw [e]; rfl)
          have e1 : v ≠ 1 := fun e => q1 (by rw [e]; rfl)
          exact hp 9 (by unfold fB; rw [if_neg e0, if_neg e1]; decide)
        · have e1 : v = 1 := (nI_eq (b := 1) (by omega) (by decide)).mp q1
          exact hp 1 (by rw [e1]; decide)
        · have e0 : v = 0 := (nI_eq (b := 0) (by omega) (by decide)).mp q0
          exact hp 3 (by rw [e0]; decide)
      rcases ix u (n := fB v) (by omega) with hu | ⟨s, hs, rfl⟩
      · have bad : ∀ H, (nI (fB v - 1)).toInt64 = H → ∀ zx1, Rel zx1 zm → pX8_set_b45 (fun r2 zm1 => (-1 : Int32) = r2 ∧ Rel zx1 zm1) zm (nI y) (nI v) u u.toInt64 0 H := by
          intro H hH zx1 hr
          unfold pX8_set_b45
          exact cInN zm (fB v - 1) hH (by omega) (by rw [show fB v - 1 + 1 = fB v by omega]; exact hu) ⟨fun q => absurd rfl q, fun _ => ⟨rfl, hr⟩⟩
        exact ⟨fun _ => ask _ (fun H hH => bad H hH zx h0), fun q1 => ⟨vp_in_nI (by omega) (by decide), fun q2 => absurd q2 (fun q3 => hu.elim q1 (fun q4 => Int32.lt_irrefl (fa_trans q3 q4))), fun _ => ask _ (fun H hH => bad H hH zx h0)⟩⟩
      · refine ⟨fun q => absurd q (nI_pos (by omega)), fun _ => ⟨vp_in_nI (by omega) (by decide), fun _ => s_fact b hT hy hv _ ?_, fun q => absurd (nI_lt hs (by omega)) q⟩⟩
        unfold pX0_putFact
        have e1 : (4 : Int32) * nI y + nI v = nI (4 * y + v) := by rw [show (4 : Int32) = nI 4 from rfl, pk_mul, nI_add]
        rw [e1, nI_clamp (by omega)]
        refine ⟨vp_in_nI (by omega) (by decide), fun z1 g1 => ask (fun r2 zm1 => nI (A 3 (4 * y + v)) = r2 ∧ Rel z1 zm1) (fun H hH => ?_)⟩
        unfold pX8_set_b45
        have e2 : ((9 : Int32) + (4 : Int32) * nI v) + nI y = nI (9 + 4 * v + y) := by rw [show (9 : Int32) = nI 9 from rfl, show (4 : Int32) = nI 4 from rfl, pk_mul, nI_add, nI_add]
        rw [e2, nI_clamp (by omega)]
        refine cInY zm (fB v - 1) hH (by omega) (by omega) ⟨fun _ => ⟨vp_in_nI (by omega) (by decide), fun t ht => ⟨vp_in_nI (by omega) (by decide), fun y1 g2 => ⟨?_, ?_⟩⟩⟩, fun q => absurd q (by decide)⟩
        · rw [ht, c.2.2.2.2.2.2.1 y v hy hv]
        · rw [g1, g2]
          exact Rel.line (d.u (Or.inr (Or.inl rfl))) e f g i j k (a.f hv hs) (by decide) (by omega) (b.f _ _) (c.f s hT hy hv)
