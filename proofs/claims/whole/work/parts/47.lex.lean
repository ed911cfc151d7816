/-! THE TAPE, token by token. n bytes T -/
def eoF (T : Nat → Nat) (lo hi : Nat) : Nat → Nat → Nat
  | 0, p => p
  | k + 1, p => if lo ≤ T p ∧ T p ≤ hi then eoF T lo hi k (p + 1) else p
theorem eoF_y {T : Nat → Nat} {lo hi k p : Nat} (h : lo ≤ T p ∧ T p ≤ hi) : eoF T lo hi (k + 1) p = eoF T lo hi k (p + 1) := if_pos h
theorem eoF_n {T : Nat → Nat} {lo hi k p : Nat} (h : ¬ (lo ≤ T p ∧ T p ≤ hi)) : eoF T lo hi (k + 1) p = p := if_neg h
theorem eoF_b (T : Nat → Nat) (lo hi : Nat) : ∀ k p, p ≤ eoF T lo hi k p ∧ eoF T lo hi k p ≤ p + k := by
  intro k
  induction k with
  | zero => intro p; exact ⟨Nat.le_refl _, Nat.le_refl _⟩
  | succ k ih =>
    intro p
    by_cases c : lo ≤ T p ∧ T p ≤ hi
    · rw [eoF_y c]
      have := ih (p + 1)
      omega
    · rw [eoF_n c]; omega
def eo (n : Nat) (T : Nat → Nat) (lo hi p : Nat) : Nat := eoF T lo hi (n - p) p
theorem eo_b {n : Nat} {T : Nat → Nat} {lo hi p : Nat} (h : p ≤ n) : p ≤ eo n T lo hi p ∧ eo n T lo hi p ≤ n := by
  have := eoF_b T lo hi (n - p) p
  unfold eo
  omega
theorem eo_1 {n : Nat} {T : Nat → Nat} {lo hi p : Nat} (h : p < n) (h2 : lo ≤ T p ∧ T p ≤ hi) : eo n T lo hi p = eo n T lo hi (p + 1) := by
  unfold eo
  obtain ⟨k, hk⟩ : ∃ k, n - p = k + 1 := ⟨n - p - 1, by omega⟩
  rw [hk, eoF_y h2, show n - (p + 1) = k by omega]
theorem eo_0 {n : Nat} {T : Nat → Nat} {lo hi p : Nat} (h : n ≤ p ∨ ¬ (lo ≤ T p ∧ T p ≤ hi)) : eo n T lo hi p = p := by
  unfold eo
  by_cases c : n ≤ p
  · rw [show n - p = 0 by omega]; rfl
  · obtain ⟨k, hk⟩ : ∃ k, n - p = k + 1 := ⟨n - p - 1, by omega⟩
    rw [hk, eoF_n (h.resolve_left c)]
/-- a token from p on: its place, kind, end, value, whether it is none -/
def tS (n : Nat) (T : Nat → Nat) (p : Nat) : Nat := eo n T 32 32 p
def tK (n : Nat) (T : Nat → Nat) (p : Nat) : Nat := if n ≤ tS n T p then 0 else if 97 ≤ T (tS n T p) ∧ T (tS n T p) ≤ 122 then 1 else if 48 ≤ T (tS n T p) ∧ T (tS n T p) ≤ 57 then 2 else 3
def tE (n : Nat) (T : Nat → Nat) (p : Nat) : Nat := if tK n T p = 0 then tS n T p else if tK n T p = 1 then eo n T 97 122 (tS n T p) else if tK n T p = 2 then eo n T 48 57 (tS n T p) else tS n T p + 1
def tV (n : Nat) (T : Nat → Nat) (p : Nat) : Nat := if tE n T p - tS n T p = 1 then T (tS n T p) - 48 else 10 * (T (tS n T p) - 48) + (T (tS n T p + 1) - 48)
def tX (n : Nat) (T : Nat → Nat) (p : Nat) : Prop := tK n T p = 2 ∧ 2 < tE n T p - tS n T p ∨ tK n T p = 3 ∧ T (tS n T p) ≠ 59
theorem tk0 {n : Nat} {T : Nat → Nat} {p : Nat} (h : n ≤ tS n T p) : tK n T p = 0 ∧ tE n T p = tS n T p ∧ ¬ tX n T p := by
  have k : tK n T p = 0 := if_pos h
  refine ⟨k, ?_, ?_⟩
  · unfold tE; rw [if_pos k]
  · unfold tX; omega
theorem tk1 {n : Nat} {T : Nat → Nat} {p : Nat} (h : tS n T p < n) (h1 : 97 ≤ T (tS n T p) ∧ T (tS n T p) ≤ 122) : tK n T p = 1 ∧ tE n T p = eo n T 97 122 (tS n T p) ∧ ¬ tX n T p := by
  have k : tK n T p = 1 := by unfold tK; rw [if_neg (by omega), if_pos h1]
  refine ⟨k, ?_, ?_⟩
  · unfold tE; rw [if_neg (by omega), if_pos k]
  · unfold tX; omega
theorem tk2 {n : Nat} {T : Nat → Nat} {p : Nat} (h : tS n T p < n) (h1 : 48 ≤ T (tS n T p) ∧ T (tS n T p) ≤ 57) : tK n T p = 2 ∧ tE n T p = eo n T 48 57 (tS n T p) ∧ tS n T p + 1 ≤ tE n T p ∧ tE n T p ≤ n := by
  have k : tK n T p = 2 := by unfold tK; rw [if_neg (by omega), if_neg (by omega), if_pos h1]
  have e : tE n T p = eo n T 48 57 (tS n T p) := by unfold tE; rw [if_neg (by omega), if_neg (by omega), if_pos k]
  have b := eo_b (T := T) (lo := 48) (hi := 57) (p := tS n T p + 1) (n := n) (by omega)
  rw [← eo_1 h h1] at b
  exact ⟨k, e, by omega, by omega⟩
theorem tk3 {n : Nat} {T : Nat → Nat} {p : Nat} (h : tS n T p < n) (h1 : ¬ (97 ≤ T (tS n T p) ∧ T (tS n T p) ≤ 122)) (h2 : ¬ (48 ≤ T (tS n T p) ∧ T (tS n T p) ≤ 57)) : tK n T p = 3 ∧ tE n T p = tS n T p + 1 ∧ (tX n T p ↔ T (tS n T p) ≠ 59) := by
  have k : tK n T p = 3 := by unfold tK; rw [if_neg (by omega), if_neg h1, if_neg h2]
  refine ⟨k, ?_, ?_⟩
  · unfold tE; rw [if_neg (by omega), if_neg (by omega), if_neg (by omega)]
  · unfold tX; omega
theorem tS_b {n : Nat} {T : Nat → Nat} {p : Nat} (h : p ≤ n) : p ≤ tS n T p ∧ tS n T p ≤ n := eo_b h
theorem tE_b {n : Nat} {T : Nat → Nat} {p : Nat} (h : p ≤ n) : tS n T p ≤ tE n T p ∧ tE n T p ≤ n := by
  have b := tS_b (T := T) h
  by_cases c : n ≤ tS n T p
  · rw [(tk0 c).2.1]; omega
  · have c : tS n T p < n := by omega
    by_cases c1 : 97 ≤ T (tS n T p) ∧ T (tS n T p) ≤ 122
    · rw [(tk1 c c1).2.1]
      exact eo_b (by omega)
    · by_cases c2 : 48 ≤ T (tS n T p) ∧ T (tS n T p) ≤ 57
      · have := tk2 c c2; omega
      · rw [(tk3 c c1 c2).2.1]; omega
/-- a token that is not the end is not empty -/
theorem tE_lt {n : Nat} {T : Nat → Nat} {p : Nat} (h : p ≤ n) (hk : tK n T p ≠ 0) : p < tE n T p := by
  have b := tS_b (T := T) h
  by_cases c : n ≤ tS n T p
  · exact absurd (tk0 c).1 hk
  · have c : tS n T p < n := by omega
    by_cases c1 : 97 ≤ T (tS n T p) ∧ T (tS n T p) ≤ 122
    · rw [(tk1 c c1).2.1, eo_1 c c1]
      have := eo_b (T := T) (lo := 97) (hi := 122) (p := tS n T p + 1) (n := n) (by omega)
      omega
    · by_cases c2 : 48 ≤ T (tS n T p) ∧ T (tS n T p) ≤ 57
      · have := tk2 c c2; omega
      · rw [(tk3 c c1 c2).2.1]; omega
/-! the class -/
def TpX (z : MX) (n : Nat) (T : Nat → Nat) : Prop := n ≤ 160 ∧ (∀ k, k < n → T k < 128) ∧ z.1 24 1 = nI n ∧ ∀ k, k < n → z.1 25 k = nI (T k)
def TpM (z : MX) (n : Nat) (T : Nat → Nat) : Prop := n ≤ 160 ∧ (∀ k, k < n → T k < 128) ∧ z.1 0 15 = nI n ∧ ∀ k, k < n → z.1 6 k = nI (T k)
theorem en_s (post : Int32 → MX → Prop) (n : Nat) : pX5_endOf_L3 post (n + 1) = pX5_endOf_l3 (pX5_endOf_L3 post n) post := rfl
theorem sX_endOf {z : MX} {n : Nat} {T : Nat → Nat} (hT : TpX z n T) {lo hi p : Nat} (hlo : lo < 2 ^ 31) (hhi : hi < 2 ^ 31) (hp : p ≤ n) (post : Int32 → MX → Prop) (h : post (nI (eo n T lo hi p)) z) : pX5_endOf z (nI lo) (nI hi) (nI p) post := by
  obtain ⟨h1, h2, h3, h4⟩ := hT
  have key : ∀ k p, p + k = n → post (nI (eo n T lo hi p)) z → pX5_endOf_L3 post (k + 1) z (nI lo) (nI hi) (nI p) := by
    intro k
    induction k with
    | zero =>
      intro p hk hpost
      rw [en_s]
      unfold pX5_endOf_l3
      have ep : p = n := by omega
      rw [h3, ep]
      rw [eo_0 (by omega), ep] at hpost
      exact ⟨fun _ => hpost, fun c => absurd (nI_le (Nat.le_refl _) (by omega)) c⟩
    | succ k ih =>
      intro p hk hpost
      rw [en_s]
      unfold pX5_endOf_l3
      have b := h2 p (by omega)
      rw [h3, nI_clamp (by omega), h4 p (by omega), nI_ltI (by omega) hlo, nI_leI (by omega) hhi]
      refine ⟨fun c => absurd c (nI_ge (by omega) (by omega)), fun _ => ⟨vp_in_nI (by omega) (by omega), fun c => ?_, fun c => ⟨vp_in_nI (by omega) (by omega), fun d x hx => ?_, fun d => ?_⟩⟩⟩
      · rw [eo_0 (by omega)] at hpost; exact hpost
      · rw [hx, nI_1]
        rw [eo_1 (by omega) (by omega)] at hpost
        exact ih (p + 1) (by omega) hpost
      · rw [eo_0 (by omega)] at hpost; exact hpost
  exact ⟨n - p + 1, key (n - p) p (by omega) h⟩
def TkX (z z1 : MX) (n : Nat) (T : Nat → Nat) (p : Nat) : Prop := fr 24 24 z z1 ∧ z1.1 24 1 = z.1 24 1 ∧ z1.1 24 4 = z.1 24 4 ∧ z1.1 24 5 = nI (tK n T p) ∧ z1.1 24 6 = nI (tS n T p) ∧ z1.1 24 7 = nI (tE n T p) ∧ (tK n T p = 2 → ¬ tX n T p → z1.1 24 8 = nI (tV n T p))
theorem TpX.e {z z1 : MX} {n : Nat} {T : Nat → Nat} (h : TpX z n T) (h1 : z1.1 24 1 = z.1 24 1) (h2 : z1.1 25 = z.1 25) : TpX z1 n T := by
  unfold TpX
  rw [h1, h2]
  exact h
theorem sX_blame {z : MX} (c : Int32) (post : Int32 → MX → Prop) (h : ∀ z1, fr 24 24 z z1 → z1.1 24 2 = c → z1.1 24 3 = z.1 24 6 → (∀ k, k ≠ 2 → k ≠ 3 → z1.1 24 k = z.1 24 k) → post 0 z1) : pX5_blame z c post := by
  unfold pX5_blame
  intro z1 e1 z2 e2
  refine ⟨Or.inl rfl, h z2 ?_ ?_ ?_ ?_⟩
  · rw [e2, e1]; exact ((fr.rf 24 24 z).mw _ _ (by omega) (by omega)).mw _ _ (by omega) (by omega)
  · rw [e2, mw_k _ _ (by decide), e1, mw_s]
  · rw [e2, mw_s, e1, mw_k _ _ (by decide)]
  · intro k h1 h2
    rw [e2, mw_k _ _ h2, e1, mw_k _ _ h1]
set_option maxHeartbeats 4000000 in
theorem sX_next {z : MX} {n : Nat} {T : Nat → Nat} (hT : TpX z n T) {p : Nat} (hp : p ≤ n) (h7 : z.1 24 7 = nI p) (post : Int32 → MX → Prop) (hok : ¬ tX n T p → ∀ z1, TkX z z1 n T p → z1.1 24 2 = z.1 24 2 → post 1 z1) (her : tX n T p → ∀ z1, TkX z z1 n T p → z1.1 24 2 = 1 → z1.1 24 3 = nI (tS n T p) → post 0 z1) : pX5_nextToken z post := by
  have hT0 := hT
  obtain ⟨h1, h2, h3, h4⟩ := hT
  have bs := tS_b (T := T) hp
  unfold pX5_nextToken
  rw [h7]
  refine sX_endOf (lo := 32) (hi := 32) hT0 (by decide) (by decide) hp _ (fun z1 e1 z2 e2 => ?_)
  have es : eo n T 32 32 p = tS n T p := rfl
  rw [es] at e1
  have a7 : z2.1 24 7 = nI (tS n T p) := by rw [e2, mw_k _ _ (by decide), e1, mw_s]
  have a6 : z2.1 24 6 = nI (tS n T p) := by rw [e2, mw_s, e1, mw_s]
  have a1 : z2.1 24 1 = nI n := by rw [e2, mw_k _ _ (by decide), e1, mw_k _ _ (by decide)]; exact h3
  have a25 : z2.1 25 = z.1 25 := by rw [e2, mw_n _ _ _ (by decide), e1, mw_n _ _ _ (by decide)]
  have ao : ∀ k, k ≠ 6 → k ≠ 7 → z2.1 24 k = z.1 24 k := fun k q1 q2 => by rw [e2, mw_k _ _ q1, e1, mw_k _ _ q2]
  have f2 : fr 24 24 z z2 := by rw [e2, e1]; exact ((fr.rf 24 24 z).mw _ _ (by omega) (by omega)).mw _ _ (by omega) (by omega)
  have T2 : TpX z2 n T := hT0.e (ao 1 (by decide) (by decide)) a25
  rw [a6, a1]
  refine ⟨fun c => ?_, fun c z3 e3 => ⟨Or.inr rfl, ?_⟩⟩
  case refine_2 =>
    have c : n ≤ tS n T p := by
      have : ¬ tS n T p < n := fun w => c (nI_lt w (by omega))
      omega
    obtain ⟨k0, k1, k2⟩ := tk0 c
    refine hok k2 z3 ⟨?_, ?_, ?_, ?_, ?_, ?_, ?_⟩ ?_
    · rw [e3]; exact f2.mw _ _ (by omega) (by omega)
    · rw [e3, mw_k _ _ (by decide), ao _ (by decide) (by decide)]
    · rw [e3, mw_k _ _ (by decide), ao _ (by decide) (by decide)]
    · rw [e3, mw_s, k0]; rfl
    · rw [e3, mw_k _ _ (by decide)]; exact a6
    · rw [e3, mw_k _ _ (by decide), k1]; exact a7
    · intro w; omega
    · rw [e3, mw_k _ _ (by decide), ao _ (by decide) (by decide)]
  have c : tS n T p < n := (nI_ltI (by omega) (by omega)).mp c
  rw [nI_clamp (by omega), T2.2.2.2 _ c]
  have cb := h2 _ c
  refine ⟨vp_in_nI (by omega) (by omega), fun x hx => ?_⟩
  rw [hx, show (97 : Int32) = nI 97 from rfl, show (122 : Int32) = nI 122 from rfl, nI_ltI (by omega) (by decide), nI_ltI (by decide) (by omega)]
  -- what is no name
  have rest : ¬ (97 ≤ T (tS n T p) ∧ T (tS n T p) ≤ 122) → pX5_nextToken_b87 post z2 (nI (T (tS n T p))) := by
    intro nn
    unfold pX5_nextToken_b87
    rw [show (48 : Int32) = nI 48 from rfl, show (57 : Int32) = nI 57 from rfl, nI_ltI (by omega) (by decide), nI_ltI (by decide) (by omega)]
    have sign : ¬ (48 ≤ T (tS n T p) ∧ T (tS n T p) ≤ 57) → pX5_nextToken_b155 post z2 (nI (T (tS n T p))) := by
      intro nd
      obtain ⟨k0, k1, k2⟩ := tk3 c nn nd
      unfold pX5_nextToken_b155
      intro z3 e3 z4 e4
      have g3 : z3.1 24 6 = nI (tS n T p) := by rw [e3, mw_k _ _ (by decide)]; exact a6
      rw [g3, nI_1] at e4
      have f4 : fr 24 24 z z4 := by rw [e4, e3]; exact (f2.mw _ _ (by omega) (by omega)).mw _ _ (by omega) (by omega)
      have go : ∀ k, k ≠ 5 → k ≠ 7 → z4.1 24 k = z2.1 24 k := fun k q1 q2 => by rw [e4, mw_k _ _ q2, e3, mw_k _ _ q1]
      have g5 : z4.1 24 5 = nI 3 := by rw [e4, mw_k _ _ (by decide), e3, mw_s]; rfl
      have g7 : z4.1 24 7 = nI (tS n T p + 1) := by rw [e4, mw_s]
      rw [show (59 : Int32) = nI 59 from rfl, nI_eq (by omega) (by decide)]
      refine ⟨fun q => ?_, fun q => sX_blame _ _ (fun z5 f5 b2 b3 bo => ⟨fun _ => ⟨Or.inl rfl, ?_⟩, fun w => absurd rfl w⟩)⟩
      · unfold pX5_nextToken_b184
        refine ⟨Or.inr rfl, hok (fun w => (k2.mp w) q) z4 ⟨f4, ?_, ?_, ?_, ?_, ?_, ?_⟩ ?_⟩
        · rw [go 1 (by decide) (by decide), ao _ (by decide) (by decide)]
        · rw [go 4 (by decide) (by decide), ao _ (by decide) (by decide)]
        · rw [k0]; exact g5
        · rw [go 6 (by decide) (by decide)]; exact a6
        · rw [k1]; exact g7
        · intro w; omega
        · rw [go 2 (by decide) (by decide), ao _ (by decide) (by decide)]
      · refine her (k2.mpr q) z5 ⟨f4.tr f5, ?_, ?_, ?_, ?_, ?_, ?_⟩ b2 ?_
        · rw [bo 1 (by decide) (by decide), go 1 (by decide) (by decide), ao _ (by decide) (by decide)]
        · rw [bo 4 (by decide) (by decide), go 4 (by decide) (by decide), ao _ (by decide) (by decide)]
        · rw [bo 5 (by decide) (by decide), k0]; exact g5
        · rw [bo 6 (by decide) (by decide), go 6 (by decide) (by decide)]; exact a6
        · rw [bo 7 (by decide) (by decide), k1]; exact g7
        · intro w; omega
        · rw [b3, go 6 (by decide) (by decide)]; exact a6
    refine ⟨fun q => sign (by omega), fun q => ⟨fun q2 => sign (by omega), fun q2 z3 e3 => ?_⟩⟩
    have d1 : 48 ≤ T (tS n T p) ∧ T (tS n T p) ≤ 57 := by omega
    obtain ⟨k0, k1, k2, k3⟩ := tk2 c d1
    have g6 : z3.1 24 6 = nI (tS n T p) := by rw [e3, mw_k _ _ (by decide)]; exact a6
    have T3 : TpX z3 n T := T2.e (by rw [e3, mw_k _ _ (by decide)]) (by rw [e3, mw_n _ _ _ (by decide)])
    rw [g6]
    refine sX_endOf T3 (by decide) (by decide) (by omega) _ (fun z4 e4 => ?_)
    rw [← k1] at e4
    have T4 : TpX z4 n T := T3.e (by rw [e4, mw_k _ _ (by decide)]) (by rw [e4, mw_n _ _ _ (by decide)])
    have b6 : z4.1 24 6 = nI (tS n T p) := by rw [e4, mw_k _ _ (by decide)]; exact g6
    have b7 : z4.1 24 7 = nI (tE n T p) := by rw [e4, mw_s]
    unfold pX5_numberHere
    rw [b6, b7, nI_clamp (by omega), T4.2.2.2 _ c, show (48 : Int32) = nI 48 from rfl, pk_sub (by omega), pk_sub (by omega), nI_1, nI_clamp (by omega), show (2 : Int32) = nI 2 from rfl, nI_eq (by omega) (by decide)]
    -- behind the number
    have fin : ∀ u : Nat, (¬ tX n T p → u = tV n T p) → ∀ z5, z5 = mw z4 24 8 (nI u) → ((z5.1 24 7 - z5.1 24 6 ≤ nI 2 → pX5_nextToken_b149 post z5) ∧ (¬ z5.1 24 7 - z5.1 24 6 ≤ nI 2 → pX5_blame z5 1 (fun r143 z143 => (r143 = 0 → ((0 : Int32) = 0 ∨ (0 : Int32) = 1) ∧ post 0 z143) ∧ (¬ r143 = 0 → pX5_nextToken_b149 post z143)))) := by
      intro u hu z5 e5
      have f5 : fr 24 24 z z5 := by rw [e5, e4, e3]; exact ((f2.mw _ _ (by omega) (by omega)).mw _ _ (by omega) (by omega)).mw _ _ (by omega) (by omega)
      have go : ∀ k, k ≠ 5 → k ≠ 7 → k ≠ 8 → z5.1 24 k = z2.1 24 k := fun k q1 q2 q3 => by rw [e5, mw_k _ _ q3, e4, mw_k _ _ q2, e3, mw_k _ _ q1]
      have g7 : z5.1 24 7 = nI (tE n T p) := by rw [e5, mw_k _ _ (by decide)]; exact b7
      have g6' : z5.1 24 6 = nI (tS n T p) := by rw [e5, mw_k _ _ (by decide)]; exact b6
      have g5 : z5.1 24 5 = nI 2 := by rw [e5, mw_k _ _ (by decide), e4, mw_k _ _ (by decide), e3, mw_s]; rfl
      have g8 : z5.1 24 8 = nI u := by rw [e5, mw_s]
      rw [g7, g6', pk_sub (by omega), nI_leI (by omega) (by decide)]
      refine ⟨fun q => ?_, fun q => sX_blame _ _ (fun z6 f6 c2 c3 co => ⟨fun _ => ⟨Or.inl rfl, ?_⟩, fun w => absurd rfl w⟩)⟩
      · have nx : ¬ tX n T p := by unfold tX; omega
        unfold pX5_nextToken_b149
        refine ⟨Or.inr rfl, hok nx z5 ⟨f5, ?_, ?_, ?_, g6', g7, ?_⟩ ?_⟩
        · rw [go 1 (by decide) (by decide) (by decide), ao _ (by decide) (by decide)]
        · rw [go 4 (by decide) (by decide) (by decide), ao _ (by decide) (by decide)]
        · rw [k0]; exact g5
        · intro _ _; rw [g8, hu nx]
        · rw [go 2 (by decide) (by decide) (by decide), ao _ (by decide) (by decide)]
      · have yx : tX n T p := Or.inl ⟨k0, by omega⟩
        refine her yx z6 ⟨f5.tr f6, ?_, ?_, ?_, ?_, ?_, ?_⟩ c2 (by rw [c3]; exact g6')
        · rw [co 1 (by decide) (by decide), go 1 (by decide) (by decide) (by decide), ao _ (by decide) (by decide)]
        · rw [co 4 (by decide) (by decide), go 4 (by decide) (by decide) (by decide), ao _ (by decide) (by decide)]
        · rw [co 5 (by decide) (by decide), k0]; exact g5
        · rw [co 6 (by decide) (by decide)]; exact g6'
        · rw [co 7 (by decide) (by decide)]; exact g7
        · intro _ w; exact absurd yx w
    refine ⟨vp_in_nI (by omega) (by omega), fun y hy => ⟨fun q z5 e5 => ?_, fun q => ⟨vp_in_nI (by omega) (by omega), fun z5 e5 => ?_⟩⟩⟩
    · rw [hy] at e5
      refine fin _ (fun nx => ?_) z5 e5
      unfold tX at nx
      unfold tV
      rw [if_pos (by omega)]
    · have hb2 := h2 (tS n T p + 1) (by omega)
      have d2 : 48 ≤ T (tS n T p + 1) := by
        have : tE n T p = eo n T 48 57 (tS n T p + 1) := by rw [k1, eo_1 c d1]
        refine Classical.byContradiction (fun w => ?_)
        rw [eo_0 (by omega)] at this
        omega
      rw [hy, T4.2.2.2 _ (by omega), show (10 : Int32) = nI 10 from rfl, pk_mul, nI_add, pk_sub (by omega)] at e5
      refine fin _ (fun nx => ?_) z5 e5
      unfold tV
      rw [if_neg (by omega)]
      omega
  refine ⟨fun q => rest (by omega), fun q => ⟨fun q2 => rest (by omega), fun q2 z3 e3 => ?_⟩⟩
  have d1 : 97 ≤ T (tS n T p) ∧ T (tS n T p) ≤ 122 := by omega
  obtain ⟨k0, k1, k2⟩ := tk1 c d1
  have g6 : z3.1 24 6 = nI (tS n T p) := by rw [e3, mw_k _ _ (by decide)]; exact a6
  have T3 : TpX z3 n T := T2.e (by rw [e3, mw_k _ _ (by decide)]) (by rw [e3, mw_n _ _ _ (by decide)])
  rw [g6]
  refine sX_endOf T3 (by decide) (by decide) (by omega) _ (fun z4 e4 => ⟨Or.inr rfl, ?_⟩)
  rw [← k1] at e4
  have go : ∀ k, k ≠ 5 → k ≠ 7 → z4.1 24 k = z2.1 24 k := fun k q1 q2 => by rw [e4, mw_k _ _ q2, e3, mw_k _ _ q1]
  refine hok k2 z4 ⟨?_, ?_, ?_, ?_, ?_, ?_, ?_⟩ ?_
  · rw [e4, e3]; exact (f2.mw _ _ (by omega) (by omega)).mw _ _ (by omega) (by omega)
  · rw [go 1 (by decide) (by decide), ao _ (by decide) (by decide)]
  · rw [go 4 (by decide) (by decide), ao _ (by decide) (by decide)]
  · rw [e4, mw_k _ _ (by decide), e3, mw_s, k0]; rfl
  · rw [go 6 (by decide) (by decide)]; exact a6
  · rw [e4, mw_s]
  · intro w; omega
  · rw [go 2 (by decide) (by decide), ao _ (by decide) (by decide)]
