/-! magpies by odds -/
theorem lc_eq (a b : Int64) : lg_cmp a b = 0 ↔ a = b := by
  unfold lg_cmp
  by_cases h1 : a > b
  · simp only [if_pos h1]
    exact ⟨fun h => absurd h (by decide), fun h => by rw [h] at h1; exact (Int64.lt_irrefl h1).elim⟩
  · by_cases h2 : a = b
    · simp only [if_neg h1, if_pos h2]
      exact ⟨fun _ => h2, fun _ => trivial⟩
    · simp only [if_neg h1, if_neg h2]
      exact ⟨fun h => absurd h (by decide), fun h => absurd h h2⟩
theorem l0 : (0 : Int64) = lN 0 := rfl
theorem gcd_st {a b : Nat} : Nat.gcd a b = Nat.gcd b (a % b) := by
  rw [Nat.gcd_comm a b, Nat.gcd_rec b a, Nat.gcd_comm]
theorem half {b r : Nat} (h0 : 0 < r) (h : r < b) : 2 * (b % r) < b := by
  have h1 := Nat.mod_lt b h0
  have h2 := Nat.div_add_mod b r
  have h3 : 1 ≤ b / r := (Nat.one_le_div_iff h0).mpr (by omega)
  have h4 : r * 1 ≤ r * (b / r) := Nat.mul_le_mul_left r h3
  omega
theorem cd_s (post : Int64 → MX → Prop) (n : Nat) : pX7_commonDivisor_L9 post (n + 1) = pX7_commonDivisor_l9 (pX7_commonDivisor_L9 post n) post := rfl
theorem lw_s (post : Int64 → MX → Prop) (n : Nat) : pX8_lowest_L6 post (n + 1) = pX8_lowest_l6 (pX8_lowest_L6 post n) post := rfl
theorem cd_0 {z : MX} {a i : Nat} (post : Int64 → MX → Prop) (h : post (lN a) z) : ∃ n, pX7_commonDivisor_L9 post n z (lN a) (lN 0) (nI i) := by
  refine ⟨1, ?_⟩
  rw [cd_s]
  unfold pX7_commonDivisor_l9
  exact ⟨fun _ => h, fun _ => ⟨fun _ => h, fun q => absurd ((lc_eq _ _).mpr rfl) q⟩⟩
theorem cd_1 {z : MX} {a b i : Nat} (ha : a < 2 ^ 63) (hb : b < 2 ^ 63) (h0 : b ≠ 0) (hi : i < 200) (post : Int64 → MX → Prop) (h : ∃ n, pX7_commonDivisor_L9 post n z (lN b) (lN (a % b)) (nI (i + 1))) : ∃ n, pX7_commonDivisor_L9 post n z (lN a) (lN b) (nI i) := by
  obtain ⟨n, h⟩ := h
  refine ⟨n + 1, ?_⟩
  rw [cd_s]
  unfold pX7_commonDivisor_l9
  have hn : ¬ lN b = 0 := fun q => h0 ((pk_lEQ hb (by decide)).mp q)
  refine ⟨fun q => absurd q (nI_ge (a := i) (b := 200) hi (by decide)), fun _ => ⟨fun q => absurd ((lc_eq _ _).mp q) hn, fun _ => ⟨hn, fun x hx u hu => ?_⟩⟩⟩
  rw [hx, hu, nI_1, pk_lRem ha (by omega) hb]
  exact h
theorem sX_gcd {z : MX} : ∀ k a b i, b < 2 ^ k → a < 2 ^ 63 → b < 2 ^ 63 → i + 2 * k < 200 → ∀ post : Int64 → MX → Prop, post (lN (Nat.gcd a b)) z → ∃ n, pX7_commonDivisor_L9 post n z (lN a) (lN b) (nI i) := by
  intro k
  induction k with
  | zero =>
    intro a b i hb _ _ _ post h
    have : b = 0 := by omega
    rw [this, Nat.gcd_zero_right] at h
    rw [this]
    exact cd_0 post h
  | succ k ih =>
    intro a b i hb ha hb2 hi post h
    by_cases e : b = 0
    · rw [e, Nat.gcd_zero_right] at h
      rw [e]
      exact cd_0 post h
    · have hr := Nat.mod_lt a (Nat.pos_of_ne_zero e)
      refine cd_1 ha hb2 e (by omega) post ?_
      rw [gcd_st] at h
      by_cases e2 : a % b = 0
      · rw [e2, Nat.gcd_zero_right] at h
        rw [e2]
        exact cd_0 post h
      · refine cd_1 hb2 (by omega) e2 (by omega) post ?_
        rw [gcd_st] at h
        have hh := half (Nat.pos_of_ne_zero e2) hr
        exact ih _ _ (i + 1 + 1) (by rw [Nat.pow_succ] at hb; omega) (by omega) (by omega) (by omega) post h
theorem sM_gcd {z : MX} (up dn : Int64) (w : Int32) (post : Int64 → MX → Prop) : ∀ b a, a < 2 ^ 63 → b < 2 ^ 63 → (∀ g, g = Nat.gcd a b → (¬ w = 0 → pX8_lowest_b41 post z (lN g) dn) ∧ (w = 0 → pX8_lowest_b41 post z (lN g) up)) → ∃ n, pX8_lowest_L6 post n z up dn w (lN a) (lN b) := by
  intro b
  induction b using Nat.strongRecOn with
  | _ b ih =>
    intro a ha hb h
    by_cases e : b = 0
    · rw [e] at h ⊢
      refine ⟨1, ?_⟩
      rw [lw_s]
      unfold pX8_lowest_l6
      exact ⟨fun _ => h a (by rw [Nat.gcd_zero_right]), fun q => absurd ((lc_eq _ _).mpr rfl) q⟩
    · have hr := Nat.mod_lt a (Nat.pos_of_ne_zero e)
      obtain ⟨n, hn⟩ := ih (a % b) hr b hb (by omega) (fun g hg => h g (by rw [hg, ← gcd_st]))
      refine ⟨n + 1, ?_⟩
      rw [lw_s]
      unfold pX8_lowest_l6
      have hn0 : ¬ lN b = 0 := fun q => e ((pk_lEQ hb (by decide)).mp q)
      refine ⟨fun q => absurd ((lc_eq _ _).mp q) hn0, fun _ => ⟨hn0, fun x hx => ?_⟩⟩
      rw [hx, pk_lRem ha (by omega) hb]
      exact hn
def wtN (tk k v : Nat) : Nat → Nat
  | 0 => 1
  | b + 1 => wtN tk k v b * (if tk / 2 ^ b % 2 = 1 then 1 else if k / 2 ^ b % 2 = 1 then v else 10 - v)
theorem wtN_s (tk k v b : Nat) : wtN tk k v (b + 1) = wtN tk k v b * (if tk / 2 ^ b % 2 = 1 then 1 else if k / 2 ^ b % 2 = 1 then v else 10 - v) := rfl
theorem wtN_le (tk k : Nat) {v : Nat} (hv : v ≤ 10) : ∀ b, wtN tk k v b ≤ 10 ^ b := by
  intro b
  induction b with
  | zero => exact Nat.le_refl _
  | succ b ih =>
    rw [wtN_s, Nat.pow_succ]
    refine Nat.mul_le_mul ih ?_
    by_cases c : tk / 2 ^ b % 2 = 1
    · rw [if_pos c]; omega
    · rw [if_neg c]
      by_cases d : k / 2 ^ b % 2 = 1
      · rw [if_pos d]; omega
      · rw [if_neg d]; omega
theorem wtN_pos (tk : Nat) : ∀ b, 0 < wtN tk 0 0 b := by
  intro b
  induction b with
  | zero => exact Nat.one_pos
  | succ b ih =>
    rw [wtN_s]
    refine Nat.mul_pos ih ?_
    by_cases c : tk / 2 ^ b % 2 = 1
    · rw [if_pos c]; omega
    · rw [if_neg c, if_neg (by rw [Nat.zero_div]; decide)]; omega
def cstN (A : AL) : Nat := (aCost A (aTr A 120) (A 0 1)).toNatClampNeg
theorem cstN_e {A : AL} (h : ROK A) : aCost A (aTr A 120) (A 0 1) = nI (cstN A) ∧ cstN A ≤ 4320 := by
  obtain ⟨c, c1, c2⟩ := cost_b h
  unfold cstN
  rw [c2, nI_clamp (by omega)]
  exact ⟨rfl, c1⟩
def vlN (A : AL) (k m : Nat) : Nat := if m = 1 then cstN (mgA A k) else if aTr (mgA A k) 120 3 0 = -4 then 1 else 0
theorem vlN_le {A : AL} (h : AOK A) (k m : Nat) : vlN A k m ≤ 4320 := by
  unfold vlN
  by_cases c : m = 1
  · rw [if_pos c]; exact (cstN_e (h.m k).R).2
  · rw [if_neg c]
    by_cases d : aTr (mgA A k) 120 3 0 = -4
    · rw [if_pos d]; omega
    · rw [if_neg d]; omega
def upN (A : AL) (v m : Nat) : Nat → Nat
  | 0 => 0
  | k + 1 => upN A v m k + (if (nI k &&& nI (obN (A 1) 8)) = 0 then wtN (obN (A 1) 8) k v (A 0 0) * vlN A k m else 0)
theorem upN_s (A : AL) (v m k : Nat) : upN A v m (k + 1) = upN A v m k + (if (nI k &&& nI (obN (A 1) 8)) = 0 then wtN (obN (A 1) 8) k v (A 0 0) * vlN A k m else 0) := rfl
theorem p10 : ∀ n, n ≤ 8 → 10 ^ n ≤ 10 ^ 8 := by decide
theorem upN_le {A : AL} (h : AOK A) {v : Nat} (hv : v ≤ 10) (m : Nat) : ∀ k, upN A v m k ≤ k * (10 ^ 8 * 4320) := by
  intro k
  induction k with
  | zero => exact Nat.le_refl _
  | succ k ih =>
    rw [upN_s, Nat.succ_mul]
    refine Nat.add_le_add ih ?_
    by_cases c : (nI k &&& nI (obN (A 1) 8)) = 0
    · rw [if_pos c]
      exact Nat.mul_le_mul (Nat.le_trans (wtN_le _ _ hv _) (p10 _ h.2.1)) (vlN_le h k m)
    · rw [if_neg c]; exact Nat.zero_le _
theorem wo_s (post : Int64 → MX → Prop) (n : Nat) : pX1_weightOf_L6 post (n + 1) = pX1_weightOf_l6 (pX1_weightOf_L6 post n) post := rfl
theorem n2 {a b : Nat} (ha : a < 2) (hb : b < 2 ^ 31) : nI a = nI b ↔ a = b := nI_eq (by omega) hb
theorem sX_weight {z : MX} {tk k v B : Nat} (hk : k < 256) (htk : tk < 256) (hv : v ≤ 10) (hB : B ≤ 8) (post : Int64 → MX → Prop) (h : post (lN (wtN tk k v B)) z) : pX1_weightOf z (nI k) (nI tk) (nI v) (nI B) post := by
  have key : ∀ n b, b + n = B → pX1_weightOf_L6 post (n + 1) z (nI k) (nI tk) (nI v) (nI B) (lN (wtN tk k v b)) (nI b) := by
    intro n
    induction n with
    | zero =>
      intro b hb
      rw [wo_s]
      unfold pX1_weightOf_l6
      have eb : b = B := by omega
      rw [eb]
      exact ⟨fun _ => h, fun c => absurd (nI_le (Nat.le_refl _) (by omega)) c⟩
    | succ n ih =>
      intro b hb
      rw [wo_s]
      unfold pX1_weightOf_l6
      rw [bitN (by omega) (by omega), bitN (by omega) (by omega), show (0 : Int32) = nI 0 from rfl, n2 (by omega) (by decide), n2 (by omega) (by decide)]
      have ihb := ih (b + 1) (by omega)
      rw [wtN_s] at ihb
      unfold pX1_weightOf_b45
      refine ⟨fun c => absurd c (nI_ge (by omega) (by omega)), fun _ => ⟨fun c x hx => ?_, fun c => ⟨fun d x hx u hu => ?_, fun d x hx u hu => ?_⟩⟩⟩
      · rw [if_pos (by omega), Nat.mul_one] at ihb
        rw [hx, nI_1]; exact ihb
      · rw [if_neg (by omega), if_neg (by omega)] at ihb
        rw [hx, hu, nI_1, show (10 : Int32) = nI 10 from rfl, pk_sub (by omega), nI_l (by omega), lN_mul]
        exact ihb
      · rw [if_neg (by omega), if_pos (by omega)] at ihb
        rw [hx, hu, nI_1, nI_l (by omega), lN_mul]
        exact ihb
  exact ⟨B + 1, key B 0 (by omega)⟩
theorem wg_s (post : MX → Prop) (n : Nat) : pX1_weigh_L32 0 post (n + 1) = pX1_weigh_l32 0 (pX1_weigh_L32 0 post n) post := rfl
theorem NX.ml {z z1 : MX} (h : NX z z1) (k : Nat) (v : Int64) : NX z (ml z1 k v) := h
theorem ml_g (z : MX) (k : Nat) (v : Int64) (a : Nat) : (ml z k v).2 a = if a = k then v else z.2 a := rfl
theorem ml_1 (z : MX) (k : Nat) (v : Int64) : (ml z k v).1 = z.1 := rfl
set_option maxHeartbeats 2000000 in
theorem sX_weigh {z : MX} {A : AL} (hL : LX 0 z A) (hA : AOK A) {v : Nat} (hv : v ≤ 10) (post : MX → Prop) (h : ∀ z1, NX z z1 → z1.2 0 = lN (wtN (obN (A 1) 8) 0 0 (A 0 0)) → z1.2 1 = lN (upN A v 1 (2 ^ A 0 0)) → z1.2 2 = lN (upN A v 0 (2 ^ A 0 0)) → post z1) : pX1_weigh 0 z (nI v) post := by
  have hB := hA.2.1
  have hP := pow_le8 _ hB
  have hO : obN (A 1) 8 < 256 := obN_lt _ 8
  unfold pX1_weigh
  refine sX_omenBits hL.2.2.2.2.1 hA.2.2.2.2.2.1 _ ?_
  rw [hL.1]
  refine sX_weight (k := 0) (v := 0) (by decide) hO (by decide) hB _ (fun z2 e2 z3 e3 z4 e4 => ?_)
  have key : ∀ n k z2, k + n = 2 ^ A 0 0 → NX z z2 → z2.2 0 = lN (wtN (obN (A 1) 8) 0 0 (A 0 0)) → z2.2 1 = lN (upN A v 1 k) → z2.2 2 = lN (upN A v 0 k) → pX1_weigh_L32 0 post (n + 1) z2 (nI v) (nI (obN (A 1) 8)) (nI k) := by
    intro n
    induction n with
    | zero =>
      intro k z2 hk n2 c0 c1 c2
      rw [wg_s]
      unfold pX1_weigh_l32
      rw [(hL.N n2 (Or.inl rfl)).1, shlN (by omega)]
      have ek : k = 2 ^ A 0 0 := by omega
      rw [ek] at c1 c2 ⊢
      exact ⟨fun _ => h z2 n2 c0 c1 c2, fun c => absurd (nI_le (Nat.le_refl _) (by omega)) c⟩
    | succ n ih =>
      intro k z2 hk n2 c0 c1 c2
      rw [wg_s]
      unfold pX1_weigh_l32
      have hL2 := hL.N n2 (Or.inl rfl)
      rw [hL2.1, shlN (by omega)]
      unfold pX1_weigh_b65 pX1_weigh_b149 pX1_weigh_b145
      have skip : (if (nI k &&& nI (obN (A 1) 8)) = 0 then wtN (obN (A 1) 8) k v (A 0 0) * vlN A k 1 else 0) = 0 → (if (nI k &&& nI (obN (A 1) 8)) = 0 then wtN (obN (A 1) 8) k v (A 0 0) * vlN A k 0 else 0) = 0 → pX1_weigh_L32 0 post (n + 1) z2 (nI v) (nI (obN (A 1) 8)) (nI (k + 1)) := by
        intro u1 u2
        exact ih (k + 1) z2 (by omega) n2 c0 (by rw [upN_s, u1, Nat.add_zero]; exact c1) (by rw [upN_s, u2, Nat.add_zero]; exact c2)
      refine ⟨fun c => absurd c (nI_ge (by omega) (by omega)), fun _ => ⟨fun c => ⟨fun _ x hx => ?_, fun q => absurd (by decide) q⟩, fun c => sX_weight (by omega) hO hv hB _ ?_⟩⟩
      · rw [hx, nI_1]
        exact skip (if_neg c) (if_neg c)
      · have wl := Nat.le_trans (wtN_le (obN (A 1) 8) k hv (A 0 0)) (p10 _ hB)
        generalize ew : wtN (obN (A 1) 8) k v (A 0 0) = W at wl skip
        have dec : lg_cmp (lN W) 0 ≤ 0 ↔ W = 0 := by
          rw [← Int32.not_lt, lc_gt, l0, pk_lLT (by decide) (by omega)]
          omega
        rw [dec]
        refine ⟨fun w x hx => ?_, fun w => sX_copy (by decide) hL2 hA.2.2.2.1 hA.2.2.1 _ (fun z3 f3 q3 => sX_magpies q3 hA (by omega) _ (fun z4 f4 q4 => sX_play (by decide) q4 (hA.m k).R _ (fun z5 f5 r5 _ c5 => ?_)))⟩
        · rw [hx, nI_1]
          exact skip (by rw [w, Nat.zero_mul]; simp) (by rw [w, Nat.zero_mul]; simp)
        · intro z6 e6
          have n5 := ((n2.tr (NX.of f3 (by omega))).tr (NX.of f4 (by omega))).tr (NX.of f5 (by omega))
          have e2 : z5.2 = z2.2 := by rw [f5.2, f4.2, f3.2]
          obtain ⟨cs1, cs2⟩ := cstN_e (hA.m k).R
          rw [c5, cs1, e2, nI_l (by omega), lN_mul, c1, lN_add] at e6
          have n6 : NX z z6 := by rw [e6]; exact n5.ml _ _
          have v1 : upN A v 1 (k + 1) = upN A v 1 k + W * cstN (mgA A k) := by rw [upN_s, if_pos c, ew]; rfl
          have v0 : upN A v 0 (k + 1) = upN A v 0 k + W * (if aTr (mgA A k) 120 3 0 = -4 then 1 else 0) := by rw [upN_s, if_pos c, ew]; rfl
          have g5 : z6.1 26 5 = aTr (mgA A k) 120 3 0 := by rw [e6, ml_1, r5.2.2.2.1]
          have g0 : z6.2 0 = lN (wtN (obN (A 1) 8) 0 0 (A 0 0)) := by rw [e6, ml_g, if_neg (by decide), e2]; exact c0
          have g1 : z6.2 1 = lN (upN A v 1 (k + 1)) := by rw [e6, ml_g, if_pos rfl, v1]
          have g2 : z6.2 2 = lN (upN A v 0 k) := by rw [e6, ml_g, if_neg (by decide), e2]; exact c2
          rw [g5, g2]
          refine ⟨fun d z7 e7 x hx => ?_, fun d z7 e7 x hx => ?_⟩
          · rw [hx, nI_1]
            refine ih (k + 1) z7 (by omega) (by rw [e7]; exact n6.ml _ _) (by rw [e7, ml_g, if_neg (by decide)]; exact g0) (by rw [e7, ml_g, if_neg (by decide)]; exact g1) ?_
            rw [e7, ml_g, if_pos rfl, v0, if_neg d, l0, lN_add, Nat.mul_zero]
          · rw [hx, nI_1]
            refine ih (k + 1) z7 (by omega) (by rw [e7]; exact n6.ml _ _) (by rw [e7, ml_g, if_neg (by decide)]; exact g0) (by rw [e7, ml_g, if_neg (by decide)]; exact g1) ?_
            rw [e7, ml_g, if_pos rfl, v0, if_pos d, lN_add, Nat.mul_one]
  refine ⟨2 ^ A 0 0 + 1, key (2 ^ A 0 0) 0 z4 (by omega) (by rw [e4, e3, e2]; exact (((NX.rf z).ml _ _).ml _ _).ml _ _) ?_ ?_ ?_⟩
  · rw [e4, e3, e2, ml_g, if_neg (by decide), ml_g, if_neg (by decide), ml_g, if_pos rfl]
  · rw [e4, e3, ml_g, if_neg (by decide), ml_g, if_pos rfl]; rfl
  · rw [e4, ml_g, if_pos rfl]; rfl
