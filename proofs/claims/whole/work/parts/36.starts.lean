/-! starts -/
def stP (A : AL) (c lo hi : Nat) : AL := fun a b => if a = 3 ∧ b % 4 = 2 ∧ lo ≤ b / 4 ∧ b / 4 < hi then c / 4 ^ (A 0 1 - 1 - b / 4) % 4 else A a b
theorem stP_g (A : AL) (c lo hi a b : Nat) : stP A c lo hi a b = if a = 3 ∧ b % 4 = 2 ∧ lo ≤ b / 4 ∧ b / 4 < hi then c / 4 ^ (A 0 1 - 1 - b / 4) % 4 else A a b := rfl
theorem stP_n (A : AL) (c lo hi : Nat) {a : Nat} (h : a ≠ 3) : stP A c lo hi a = A a := by
  funext b
  rw [stP_g, if_neg (fun w => h w.1)]
theorem stP_z (A : AL) (c lo : Nat) : stP A c lo lo = A := by
  funext a b
  rw [stP_g, if_neg (by omega)]
theorem stP_up (A : AL) (c t : Nat) : stP A c 0 (t + 1) = Au (stP A c 0 t) 3 (4 * t + 2) (c / 4 ^ (A 0 1 - 1 - t) % 4) := by
  funext a b
  rw [Au_g, stP_g, stP_g]
  by_cases e : a = 3 ∧ b = 4 * t + 2
  · rw [if_pos (by omega), if_pos e, show b / 4 = t by omega]
  · rw [if_neg e]
    by_cases q : a = 3 ∧ b % 4 = 2 ∧ 0 ≤ b / 4 ∧ b / 4 < t
    · rw [if_pos (by omega), if_pos q]
    · rw [if_neg (by omega), if_neg q]
theorem stP_dn (A : AL) (c t hi : Nat) (h : t < hi) : stP A c t hi = Au (stP A c (t + 1) hi) 3 (4 * t + 2) (c / 4 ^ (A 0 1 - 1 - t) % 4) := by
  funext a b
  rw [Au_g, stP_g, stP_g]
  by_cases e : a = 3 ∧ b = 4 * t + 2
  · rw [if_pos (by omega), if_pos e, show b / 4 = t by omega]
  · rw [if_neg e]
    by_cases q : a = 3 ∧ b % 4 = 2 ∧ t + 1 ≤ b / 4 ∧ b / 4 < hi
    · rw [if_pos (by omega), if_pos q]
    · rw [if_neg (by omega), if_neg q]
def stA (A : AL) (c : Nat) : AL := stP A c 0 (A 0 1)
/-- but for starts -/
def SB (A B : AL) : Prop := ∀ a b, ¬ (a = 3 ∧ b % 4 = 2 ∧ b / 4 < A 0 1) → B a b = A a b
theorem SB.e {A B : AL} (h : SB A B) (c : Nat) : stA B c = stA A c := by
  have e : B 0 1 = A 0 1 := h 0 1 (by omega)
  unfold stA
  funext a b
  rw [stP_g, stP_g, e]
  by_cases q : a = 3 ∧ b % 4 = 2 ∧ 0 ≤ b / 4 ∧ b / 4 < A 0 1
  · rw [if_pos q, if_pos q]
  · rw [if_neg q, if_neg q]
    exact h a b (by omega)
theorem SB_st (A : AL) (c lo hi : Nat) (hh : hi ≤ A 0 1) : SB A (stP A c lo hi) := fun a b h => by
  rw [stP_g, if_neg (by omega)]
theorem AOK.st {A : AL} (h : AOK A) (c lo hi : Nat) : AOK (stP A c lo hi) := by
  obtain ⟨h1, h2, h3, h4, h5, h6, h7, h8, h9⟩ := h
  unfold AOK
  rw [stP_n A c lo hi (a := 0) (by decide), stP_n A c lo hi (a := 1) (by decide), stP_n A c lo hi (a := 2) (by decide)]
  refine ⟨h1, h2, h3, h4, h5, h6, h7, h8, fun u hu => ?_⟩
  obtain ⟨g1, g2, g3, g4⟩ := h9 u hu
  rw [stP_g, stP_g, stP_g, stP_g, if_neg (by omega), if_neg (by omega), if_neg (c := 3 = 3 ∧ (4 * u + 3) % 4 = 2 ∧ lo ≤ (4 * u + 3) / 4 ∧ (4 * u + 3) / 4 < hi) (by omega)]
  refine ⟨g1, g2, ?_, g4⟩
  by_cases q : 3 = 3 ∧ (4 * u + 2) % 4 = 2 ∧ lo ≤ (4 * u + 2) / 4 ∧ (4 * u + 2) / 4 < hi
  · rw [if_pos q]; omega
  · rw [if_neg q]; exact g3
theorem si_e : ∀ s, s < 4 → ∀ c, c < 256 → (nI c >>> (((2 : Int32) * nI s) &&& 31)) &&& 3 = nI (c / 4 ^ s % 4) := by decide +kernel
theorem sX_startIn {z : MX} {c t T : Nat} (hc : c < 256) (hT : T ≤ 4) (ht : t < T) (post : Int32 → MX → Prop) (h : post (nI (c / 4 ^ (T - 1 - t) % 4)) z) : pX7_startIn z (nI c) (nI t) (nI T) post := by
  unfold pX7_startIn
  rw [nI_m1 (by omega), pk_sub (by omega), si_e _ (by omega) c hc]
  exact h
theorem sh2 {T : Nat} (hT : T ≤ 4) : (1 : Int32) <<< (((2 : Int32) * nI T) &&& 31) = nI (2 ^ (2 * T)) := by
  rw [show (2 : Int32) = nI 2 from rfl, pk_mul, shlN (by omega)]
theorem cs_s19 (post : Int32 → MX → Prop) (n : Nat) : pX6_cheapestStarts_L19 0 post (n + 1) = pX6_cheapestStarts_l19 0 (pX6_cheapestStarts_L19 0 post n) post := rfl
theorem cs_s34 (r : MX → Int32 → Int32 → Prop) (post : Int32 → MX → Prop) (n : Nat) : pX6_cheapestStarts_L34 0 r post (n + 1) = pX6_cheapestStarts_l34 0 r (pX6_cheapestStarts_L34 0 r post n) post := rfl
theorem st_s41 (post : Int32 → MX → Prop) (n : Nat) : pX8_starts_L41 post (n + 1) = pX8_starts_l41 (pX8_starts_L41 post n) post := rfl
theorem ls_s9 (post : MX → Prop) (n : Nat) : pX8_laysStarts_L9 post (n + 1) = pX8_laysStarts_l9 (pX8_laysStarts_L9 post n) post := rfl
set_option maxHeartbeats 2000000 in
theorem sX_starts {z : MX} {A : AL} (hL : LX 0 z A) (hA : AOK A) (post : Int32 → MX → Prop) (h : ∀ z1, NX z z1 → z1.1 31 2 = chC (stA A) (2 ^ (2 * A 0 1)) → post (chB (stA A) (2 ^ (2 * A 0 1))) z1) : pX6_cheapestStarts 0 z post := by
  have hT := hA.2.2.1
  have hP := pow_le8 (2 * A 0 1) (by omega)
  unfold pX6_cheapestStarts
  refine sX_copy (by decide) hL hA.2.2.2.1 hT _ (fun z1 f1 q1 z2 e2 => ?_)
  have key : ∀ n k z2 B, k + n = 2 ^ (2 * A 0 1) → NX z z2 → LX 1 z2 B → AOK B → SB A B → z2.1 31 2 = chC (stA A) k → pX6_cheapestStarts_L19 0 post (n + 1) z2 (chB (stA A) k) (nI k) := by
    intro n
    induction n with
    | zero =>
      intro k z2 B hk n2 q2 _ _ c2
      rw [cs_s19]
      unfold pX6_cheapestStarts_l19
      rw [(hL.N n2 (Or.inl rfl)).2.2.2.1, sh2 hT]
      have ek : k = 2 ^ (2 * A 0 1) := by omega
      rw [ek] at c2 ⊢
      exact ⟨fun _ => h z2 n2 c2, fun c => absurd (nI_le (Nat.le_refl _) (by omega)) c⟩
    | succ n ih =>
      intro k z2 B hk n2 q2 hB hS c2
      have eT : B 0 1 = A 0 1 := hS 0 1 (by omega)
      rw [cs_s19]
      unfold pX6_cheapestStarts_l19
      rw [(hL.N n2 (Or.inl rfl)).2.2.2.1, sh2 hT]
      refine ⟨fun c => absurd c (nI_ge (by omega) (by omega)), fun _ => ⟨A 0 1 + 1, ?_⟩⟩
      have inn : ∀ m t z3, t + m = A 0 1 → NX z z3 → LX 1 z3 (stP B k 0 t) → z3.1 31 2 = chC (stA A) k → pX6_cheapestStarts_L34 0 (pX6_cheapestStarts_L19 0 post (n + 1)) post (m + 1) z3 (chB (stA A) k) (nI k) (nI t) := by
        intro m
        induction m with
        | zero =>
          intro t z3 ht n3 q3 c3
          rw [cs_s34]
          unfold pX6_cheapestStarts_l34
          rw [(hL.N n3 (Or.inl rfl)).2.2.2.1]
          have et : t = A 0 1 := by omega
          rw [et]
          refine ⟨fun _ => ?_, fun c => absurd (nI_le (Nat.le_refl _) (by omega)) c⟩
          have q3' : LX 1 z3 (stA A k) := by rw [← hS.e k]; unfold stA; rw [eT, ← et]; exact q3
          have hO : AOK (stA A k) := hA.st _ _ _
          refine sX_play (by decide) q3' hO.R _ (fun z4 f4 r4 _ cc => ?_)
          have n4 := n3.tr (NX.of f4 (by omega))
          have q4 := q3'.fr f4 (by omega)
          have c4 : z4.1 31 2 = chC (stA A) k := by rw [f4.1 31 (by omega)]; exact c3
          refine sX_cheap (F := stA A) (k := k) hO.R q4.2.2.2.1 r4 cc c4 _ (fun w z5 e5 => ⟨fun q => absurd q (by decide), fun _ x hx => ?_⟩) (fun w => ⟨fun _ x hx => ?_, fun q => absurd rfl q⟩)
          · rw [hx, nI_1, ← (ch_y w).2]
            have f5 : fr 31 31 z4 z5 := by rw [e5]; exact (fr.rf 31 31 z4).mw _ _ (by omega) (by omega)
            exact ih (k + 1) z5 (stA A k) (by omega) (by rw [e5]; exact n4.mw _ _ (by omega)) (q4.fr f5 (by omega)) hO (SB_st _ _ _ _ (Nat.le_refl _)) (by rw [e5, mw_s, (ch_y w).1])
          · rw [hx, nI_1, ← (ch_n w).2]
            exact ih (k + 1) z4 (stA A k) (by omega) n4 q4 hO (SB_st _ _ _ _ (Nat.le_refl _)) (by rw [c4, (ch_n w).1])
        | succ m ihm =>
          intro t z3 ht n3 q3 c3
          rw [cs_s34]
          unfold pX6_cheapestStarts_l34
          rw [(hL.N n3 (Or.inl rfl)).2.2.2.1]
          refine ⟨fun c => absurd c (nI_ge (by omega) (by omega)), fun _ => sX_startIn (by omega) hT (by omega) _ (s_put q3 (w := 2) (by omega) (by decide) _ _ (fun z4 f4 q4 x hx => ?_))⟩
          rw [hx, nI_1]
          refine ihm (t + 1) z4 (by omega) (n3.tr (NX.of f4 (by omega))) ?_ (by rw [f4.1 31 (by omega)]; exact c3)
          rw [stP_up, eT]
          exact q4
      exact inn (A 0 1) 0 z2 (by omega) n2 (by rw [stP_z]; exact q2) c2
  exact ⟨2 ^ (2 * A 0 1) + 1, key (2 ^ (2 * A 0 1)) 0 z2 A (by omega) (by rw [e2]; exact (NX.of f1 (by omega)).mw _ _ (by omega)) (by
    have f2 : fr 31 31 z1 z2 := by rw [e2]; exact (fr.rf 31 31 z1).mw _ _ (by omega) (by omega)
    exact q1.fr f2 (by omega)) hA (fun a b _ => rfl) (by rw [e2, mw_s]; rfl)⟩
theorem d4 (c m : Nat) : c / 4 ^ m / 4 = c / 4 ^ (m + 1) := by rw [Nat.div_div_eq_div_mul, Nat.pow_succ]
set_option maxHeartbeats 2000000 in
theorem sM_lays {z : MX} {B : AL} (hL : LM z B) (hB : AOK B) {c : Nat} (hc : c < 256) (post : MX → Prop) (h : ∀ z1, (∀ q, q ≠ 1 → z1.1 q = z.1 q) → (∀ q, q < 17 ∨ 21 ≤ q → z1.1 1 q = z.1 1 q) → LM z1 (stA B c) → post z1) : pX8_laysStarts z (nI c) post := by
  have hT := hB.2.2.1
  unfold pX8_laysStarts
  intro x hx
  rw [hL.2.1] at hx
  have key : ∀ j z2, j ≤ B 0 1 → (∀ q, q ≠ 1 → z2.1 q = z.1 q) → (∀ q, q < 17 ∨ 21 ≤ q → z2.1 1 q = z.1 1 q) → LM z2 (stP B c j (B 0 1)) → pX8_laysStarts_L9 post (j + 1) z2 (nI (c / 4 ^ (B 0 1 - j))) (nI j - 1) := by
    intro j
    induction j with
    | zero =>
      intro z2 _ a1 a2 q2
      rw [ls_s9]
      unfold pX8_laysStarts_l9
      exact ⟨fun _ => h z2 a1 a2 q2, fun w => absurd (by decide) w⟩
    | succ j ih =>
      intro z2 hj a1 a2 q2
      rw [ls_s9]
      unfold pX8_laysStarts_l9
      have ei : (17 : Int32) + nI j = nI (17 + j) := by rw [show (17 : Int32) = nI 17 from rfl, nI_add]
      have hd : c / 4 ^ (B 0 1 - (j + 1)) < 256 := Nat.lt_of_le_of_lt (Nat.div_le_self _ _) hc
      rw [nI_pred, ei, nI_clamp (by omega), show (4 : Int32) = nI 4 from rfl, pk_rem (by omega) (by decide) (by decide), pk_div (by omega) (by decide) (by decide), d4]
      refine ⟨fun w => absurd w (nI_pos (by omega)), fun _ => ⟨by decide, vp_in_nI (by omega) (by decide), fun z3 e3 => ⟨by decide, fun u hu v hv => ?_⟩⟩⟩
      rw [hu, hv, show nI j + -1 = nI j - 1 by grind, show B 0 1 - (j + 1) + 1 = B 0 1 - j by omega]
      refine ih z3 (by omega) (fun q hq => by rw [e3, mw_n _ _ _ hq]; exact a1 q hq) (fun q hq => by rw [e3, mw_k _ _ (by omega)]; exact a2 q hq) ?_
      rw [stP_dn B c j _ (by omega), e3, show B 0 1 - 1 - j = B 0 1 - (j + 1) by omega]
      have e01 : stP B c (j + 1) (B 0 1) 0 1 = B 0 1 := by rw [stP_n _ _ _ _ (by decide)]
      exact q2.f (t := j) (w := 2) _ (by rw [e01]; exact hT) (by rw [e01]; omega) (by decide)
  have k0 := key (B 0 1) z (Nat.le_refl _) (fun _ _ => rfl) (fun _ _ => rfl) (by rw [stP_z]; exact hL)
  rw [Nat.sub_self, Nat.pow_zero, Nat.div_one] at k0
  rw [hx]
  exact ⟨_, k0⟩
