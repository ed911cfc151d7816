/-! the reference's step -/
theorem st_s8 (post : MX → Prop) (n : Nat) : pX8_step_L8 post (n + 1) = pX8_step_l8 (pX8_step_L8 post n) post := rfl
theorem st_s84 (post : MX → Prop) (n : Nat) : pX8_step_L84 post (n + 1) = pX8_step_l84 (pX8_step_L84 post n) post := rfl
theorem st_s140 (post : MX → Prop) (n : Nat) : pX8_step_L140 post (n + 1) = pX8_step_l140 (pX8_step_L140 post n) post := rfl
/-- a byte of the tape, -4 behind it -/
def bA (n : Nat) (T : Nat → Nat) (k : Nat) : Int32 := if k < n then nI (T k) else -4
theorem sM_byte {z : MX} {n : Nat} {T : Nat → Nat} (hT : TpM z n T) {k : Nat} (hk : k < 2 ^ 31) (post : Int32 → MX → Prop) (h : post (bA n T k) z) : pX8_byteAt z (nI k) post := by
  obtain ⟨h1, h2, h3, h4⟩ := hT
  unfold pX8_byteAt
  unfold bA at h
  rw [h3, nI_clamp hk, nI_leI (by omega) hk]
  refine ⟨fun c => ?_, fun c => ?_⟩
  · rw [if_neg (by omega)] at h; exact h
  · have c : k < n := by omega
    rw [if_pos c] at h
    rw [h4 k c]
    exact ⟨vp_in_nI (by omega) (by omega), h⟩
theorem sM_ch {z : MX} {n : Nat} {T : Nat → Nat} {k lo hi : Nat} {L H : Int64} (hb : k < n → T k < 128) (eL : (nI lo).toInt64 = L) (eH : (nI hi).toInt64 = H) (hlo : lo < 2 ^ 31) (hhi : hi < 2 ^ 31) (post : Int32 → MX → Prop) (h1 : k < n → lo ≤ T k → T k ≤ hi → post 1 z) (h0 : (n ≤ k ∨ ¬ (lo ≤ T k ∧ T k ≤ hi)) → post 0 z) : pX8_in z (bA n T k).toInt64 L H post := by
  unfold bA
  by_cases c : k < n
  · rw [if_pos c]
    have := hb c
    by_cases d : lo ≤ T k ∧ T k ≤ hi
    · exact s_iY z (lo := nI lo) (hi := nI hi) eL eH (nI_le d.1 (by omega)) (nI_le d.2 hhi) (h1 c d.1 d.2)
    · refine s_iN z (lo := nI lo) (hi := nI hi) eL eH ?_ (h0 (Or.inr d))
      by_cases e : T k < lo
      · exact Or.inl (nI_lt e hlo)
      · exact Or.inr (nI_lt (by omega) (by omega))
  · rw [if_neg c]
    refine s_iN z (lo := nI lo) (hi := nI hi) eL eH (Or.inl ?_) (h0 (Or.inl (by omega)))
    exact fa_trans (by decide : (-4 : Int32) < 0) (nI_pos' hlo)
theorem bA_4 {n : Nat} {T : Nat → Nat} {k : Nat} (hb : k < n → T k < 128) : bA n T k = -4 ↔ n ≤ k := by
  unfold bA
  by_cases c : k < n
  · rw [if_pos c]
    have := hb c
    exact ⟨fun w => absurd w (nI_neg (by omega) _ (by decide)), fun w => absurd c (by omega)⟩
  · rw [if_neg c]
    exact ⟨fun _ => by omega, fun _ => rfl⟩
theorem bA_v {n : Nat} {T : Nat → Nat} {k v : Nat} (hb : k < n → T k < 128) (hv : v < 2 ^ 31) : bA n T k = nI v ↔ k < n ∧ T k = v := by
  unfold bA
  by_cases c : k < n
  · rw [if_pos c]
    have := hb c
    rw [nI_eq (by omega) hv]
    exact ⟨fun w => ⟨c, w⟩, fun w => w.2⟩
  · rw [if_neg c]
    exact ⟨fun w => absurd w.symm (nI_neg hv _ (by decide)), fun w => absurd w.1 c⟩
theorem TpM.e {z z1 : MX} {n : Nat} {T : Nat → Nat} (h : TpM z n T) (h1 : z1.1 0 15 = z.1 0 15) (h2 : z1.1 6 = z.1 6) : TpM z1 n T := by
  unfold TpM
  rw [h1, h2]
  exact h
/-- but for the token -/
def frT (z z1 : MX) : Prop := (∀ c, c ≠ 0 → z1.1 c = z.1 c) ∧ (∀ k, k < 17 ∨ 22 < k → z1.1 0 k = z.1 0 k)
theorem frT.rf (z : MX) : frT z z := ⟨fun _ _ => rfl, fun _ _ => rfl⟩
theorem frT.tr {z z1 z2 : MX} (h : frT z z1) (h2 : frT z1 z2) : frT z z2 := ⟨fun c hc => (h2.1 c hc).trans (h.1 c hc), fun k hk => (h2.2 k hk).trans (h.2 k hk)⟩
theorem frT.w {z z1 : MX} (h : frT z z1) {k : Nat} (v : Int32) (h1 : 17 ≤ k) (h2 : k ≤ 22) : frT z (mw z1 0 k v) := ⟨fun a ha => by rw [mw_n _ _ _ ha]; exact h.1 a ha, fun a ha => by rw [mw_k _ _ (by omega)]; exact h.2 a ha⟩
theorem TpM.T {z z1 : MX} {n : Nat} {T : Nat → Nat} (h : TpM z n T) (hf : frT z z1) : TpM z1 n T := h.e (hf.2 15 (by omega)) (hf.1 6 (by decide))
def TkM (z z1 : MX) (n : Nat) (T : Nat → Nat) (p : Nat) : Prop := frT z z1 ∧ z1.1 0 19 = nI (tE n T p) ∧ z1.1 0 20 = nI (tS n T p) ∧ z1.1 0 21 = nI (tK n T p) ∧ (tK n T p = 2 → ¬ tX n T p → z1.1 0 22 = nI (tV n T p))
theorem sM_fails0 {z : MX} (h17 : z.1 0 17 = 0) (c : Int32) (post : MX → Prop) (h : ∀ z1, frT z z1 → z1.1 0 17 = c → z1.1 0 18 = z.1 0 20 → (∀ k, k ≠ 17 → k ≠ 18 → z1.1 0 k = z.1 0 k) → post z1) : pX8_fails z c post := by
  unfold pX8_fails
  refine ⟨fun w => absurd h17 w, fun _ z1 e1 z2 e2 => h z2 ?_ ?_ ?_ ?_⟩
  · rw [e2, e1]; exact ((frT.rf z).w _ (by omega) (by omega)).w _ (by omega) (by omega)
  · rw [e2, mw_k _ _ (by decide), e1, mw_s]
  · rw [e2, mw_s, e1, mw_k _ _ (by decide)]
  · intro k h1 h2
    rw [e2, mw_k _ _ h2, e1, mw_k _ _ h1]
theorem sM_fails1 {z : MX} (h17 : ¬ z.1 0 17 = 0) (c : Int32) (post : MX → Prop) (h : post z) : pX8_fails z c post := ⟨fun _ => h, fun w => absurd w h17⟩
def va (T : Nat → Nat) (s i : Nat) : Nat := if i = 0 then 0 else if i = 1 then T s - 48 else 10 * (T s - 48) + (T (s + 1) - 48)
set_option maxHeartbeats 4000000 in
theorem sM_step1 {z : MX} {n : Nat} {T : Nat → Nat} (hT : TpM z n T) {p : Nat} (hp : p ≤ n) (h17 : z.1 0 17 = 0) (h19 : z.1 0 19 = nI p) (post : MX → Prop) (hok : ¬ tX n T p → ∀ z1, TkM z z1 n T p → z1.1 0 17 = 0 → post z1) (her : tX n T p → ∀ z1, TkM z z1 n T p → z1.1 0 17 = 1 → z1.1 0 18 = nI (tS n T p) → post z1) : pX8_step z post := by
  have hn := hT.1
  have h2 := hT.2.1
  unfold pX8_step
  rw [h17]
  refine ⟨fun _ => ?_, fun w => absurd (by decide) w⟩
  have bs := tS_b (T := T) hp
  -- at the token's place
  have tok : ∀ z1, frT z z1 → z1.1 0 17 = 0 → z1.1 0 19 = nI (tS n T p) → ∃ q, pX8_step_L8 post q z1 := by
    intro z1 f1 d17 d19
    have T1 := hT.T f1
    refine ⟨1, ?_⟩
    rw [st_s8]
    unfold pX8_step_l8
    rw [d19]
    refine sM_byte T1 (by omega) _ ?_
    have ns : ¬ bA n T (tS n T p) = 32 := by
      rw [show (32 : Int32) = nI 32 from rfl, bA_v (h2 _) (by decide)]
      intro w
      have e1 : tS n T p = eo n T 32 32 (tS n T p) := by
        have : ∀ k q, q + k = n → eo n T 32 32 (eo n T 32 32 q) = eo n T 32 32 q := by
          intro k
          induction k with
          | zero =>
            intro q hq
            have e0 : eo n T 32 32 q = q := eo_0 (by omega)
            rw [e0, e0]
          | succ k ih =>
            intro q hq
            by_cases c : 32 ≤ T q ∧ T q ≤ 32
            · rw [eo_1 (by omega) c]; exact ih (q + 1) (by omega)
            · have e0 : eo n T 32 32 q = q := eo_0 (Or.inr c)
              rw [e0, e0]
        exact (this (n - p) p (by omega)).symm
      rw [eo_1 w.1 (by omega)] at e1
      have := eo_b (T := T) (lo := 32) (hi := 32) (p := tS n T p + 1) (n := n) (by omega)
      omega
    refine ⟨fun _ z2 e2 => ?_, fun w => absurd w ns⟩
    have f2 : frT z z2 := by rw [e2]; exact f1.w _ (by omega) (by omega)
    have c17 : z2.1 0 17 = 0 := by rw [e2, mw_k _ _ (by decide)]; exact d17
    have c19 : z2.1 0 19 = nI (tS n T p) := by rw [e2, mw_k _ _ (by decide)]; exact d19
    have c20 : z2.1 0 20 = nI (tS n T p) := by rw [e2, mw_s]; exact d19
    rw [c19]
    refine sM_byte (hT.T f2) (by omega) _ (fun z3 e3 => ?_)
    have f3 : frT z z3 := by rw [e3]; exact f2.w _ (by omega) (by omega)
    have a17 : z3.1 0 17 = 0 := by rw [e3, mw_k _ _ (by decide)]; exact c17
    have a19 : z3.1 0 19 = nI (tS n T p) := by rw [e3, mw_k _ _ (by decide)]; exact c19
    have a20 : z3.1 0 20 = nI (tS n T p) := by rw [e3, mw_k _ _ (by decide)]; exact c20
    have a22 : z3.1 0 22 = 0 := by rw [e3, mw_s]
    rw [bA_4 (h2 _)]
    refine ⟨fun c => ?_, fun c z4 e4 => ?_⟩
    case refine_2 =>
      obtain ⟨k0, k1, k2⟩ := tk0 c
      refine hok k2 z4 ⟨?_, ?_, ?_, ?_, ?_⟩ ?_
      · rw [e4]; exact f3.w _ (by omega) (by omega)
      · rw [e4, mw_k _ _ (by decide), k1]; exact a19
      · rw [e4, mw_k _ _ (by decide)]; exact a20
      · rw [e4, mw_s, k0]; rfl
      · intro w; omega
      · rw [e4, mw_k _ _ (by decide)]; exact a17
    have c : tS n T p < n := by omega
    refine sM_ch (lo := 97) (hi := 122) (h2 _) (by decide) (by decide) (by decide) (by decide) _ (fun _ l1 l2 => ⟨fun w => absurd w (by decide), fun _ => ?_⟩) (fun nn => ⟨fun _ => ?_, fun w => absurd rfl w⟩)
    · -- a name
      obtain ⟨k0, k1, k2⟩ := tk1 c ⟨l1, l2⟩
      have key : ∀ k q z5, q + k = n → frT z z5 → z5.1 0 17 = 0 → z5.1 0 19 = nI q → z5.1 0 20 = nI (tS n T p) → tE n T p = eo n T 97 122 q → pX8_step_L84 post (k + 1) z5 := by
        intro k
        induction k with
        | zero =>
          intro q z5 hq f5 g17 g19 g20 ge
          rw [st_s84]
          unfold pX8_step_l84
          rw [g19]
          refine sM_byte (hT.T f5) (by omega) _ (sM_ch (lo := 97) (hi := 122) (h2 _) (by decide) (by decide) (by decide) (by decide) _ (fun w => absurd w (by omega)) (fun _ => ⟨fun _ z6 e6 => ?_, fun w => absurd rfl w⟩))
          rw [eo_0 (by omega)] at ge
          refine hok k2 z6 ⟨by rw [e6]; exact f5.w _ (by omega) (by omega), by rw [e6, mw_k _ _ (by decide), ge]; exact g19, by rw [e6, mw_k _ _ (by decide)]; exact g20, by rw [e6, mw_s, k0]; rfl, fun w => absurd w (by omega)⟩ (by rw [e6, mw_k _ _ (by decide)]; exact g17)
        | succ k ih =>
          intro q z5 hq f5 g17 g19 g20 ge
          rw [st_s84]
          unfold pX8_step_l84
          rw [g19]
          refine sM_byte (hT.T f5) (by omega) _ (sM_ch (lo := 97) (hi := 122) (h2 _) (by decide) (by decide) (by decide) (by decide) _ (fun w m1 m2 => ⟨fun w => absurd w (by decide), fun _ z6 e6 => ?_⟩) (fun nn => ⟨fun _ z6 e6 => ?_, fun w => absurd rfl w⟩))
          · rw [g19, nI_1] at e6
            exact ih (q + 1) z6 (by omega) (by rw [e6]; exact f5.w _ (by omega) (by omega)) (by rw [e6, mw_k _ _ (by decide)]; exact g17) (by rw [e6, mw_s]) (by rw [e6, mw_k _ _ (by decide)]; exact g20) (by rw [ge, eo_1 w ⟨m1, m2⟩])
          · rw [eo_0 nn] at ge
            refine hok k2 z6 ⟨by rw [e6]; exact f5.w _ (by omega) (by omega), by rw [e6, mw_k _ _ (by decide), ge]; exact g19, by rw [e6, mw_k _ _ (by decide)]; exact g20, by rw [e6, mw_s, k0]; rfl, fun w => absurd w (by omega)⟩ (by rw [e6, mw_k _ _ (by decide)]; exact g17)
      exact ⟨n - tS n T p + 1, key (n - tS n T p) (tS n T p) z3 (by omega) f3 a17 a19 a20 k1⟩
    have nn : ¬ (97 ≤ T (tS n T p) ∧ T (tS n T p) ≤ 122) := by omega
    refine sM_ch (lo := 48) (hi := 57) (h2 _) (by decide) (by decide) (by decide) (by decide) _ (fun _ l1 l2 => ⟨fun w => absurd w (by decide), fun _ => ?_⟩) (fun nd => ⟨fun _ z4 e4 z5 e5 => ?_, fun w => absurd rfl w⟩)
    · -- a number
      obtain ⟨k0, k1, k2, k3⟩ := tk2 c ⟨l1, l2⟩
      have dig : ∀ q z5, frT z z5 → z5.1 0 17 = 0 → z5.1 0 19 = nI q → z5.1 0 20 = nI (tS n T p) → z5.1 0 22 = nI (va T (tS n T p) (q - tS n T p)) → tE n T p = q → tS n T p < q → ∀ z6, z6 = mw z5 0 21 2 → ((z6.1 0 19 - z6.1 0 20 ≤ 2 → post z6) ∧ (¬ z6.1 0 19 - z6.1 0 20 ≤ 2 → pX8_fails z6 1 (fun z237 => post z237))) := by
        intro q z5 f5 g17 g19 g20 g22 ge gs z6 e6
        have f6 : frT z z6 := by rw [e6]; exact f5.w _ (by omega) (by omega)
        have o17 : z6.1 0 17 = 0 := by rw [e6, mw_k _ _ (by decide)]; exact g17
        have o19 : z6.1 0 19 = nI q := by rw [e6, mw_k _ _ (by decide)]; exact g19
        have o20 : z6.1 0 20 = nI (tS n T p) := by rw [e6, mw_k _ _ (by decide)]; exact g20
        have o21 : z6.1 0 21 = nI 2 := by rw [e6, mw_s]; rfl
        have o22 : z6.1 0 22 = nI (va T (tS n T p) (q - tS n T p)) := by rw [e6, mw_k _ _ (by decide)]; exact g22
        rw [o19, o20, pk_sub (by omega), show (2 : Int32) = nI 2 from rfl, nI_leI (by omega) (by decide)]
        refine ⟨fun w => ?_, fun w => sM_fails0 o17 _ _ (fun z7 f7 b1 b2 bo => ?_)⟩
        · have nx : ¬ tX n T p := by unfold tX; omega
          refine hok nx z6 ⟨f6, by rw [ge]; exact o19, o20, by rw [k0]; exact o21, fun _ _ => ?_⟩ o17
          rw [o22]
          unfold va tV
          rw [ge, if_neg (by omega)]
        · have yx : tX n T p := Or.inl ⟨k0, by omega⟩
          exact her yx z7 ⟨f6.tr f7, by rw [bo 19 (by decide) (by decide), ge]; exact o19, by rw [bo 20 (by decide) (by decide)]; exact o20, by rw [bo 21 (by decide) (by decide), k0]; exact o21, fun _ w => absurd yx w⟩ b1 (by rw [b2]; exact o20)
      have key : ∀ k q z5, q + k = n → tS n T p ≤ q → frT z z5 → z5.1 0 17 = 0 → z5.1 0 19 = nI q → z5.1 0 20 = nI (tS n T p) → z5.1 0 22 = nI (va T (tS n T p) (q - tS n T p)) → tE n T p = eo n T 48 57 q → pX8_step_L140 post (k + 1) z5 := by
        intro k
        induction k with
        | zero =>
          intro q z5 hq hs f5 g17 g19 g20 g22 ge
          rw [st_s140]
          unfold pX8_step_l140
          rw [g19]
          refine sM_byte (hT.T f5) (by omega) _ (sM_ch (lo := 48) (hi := 57) (h2 _) (by decide) (by decide) (by decide) (by decide) _ (fun w => absurd w (by omega)) (fun _ => ⟨fun _ z6 e6 => ?_, fun w => absurd rfl w⟩))
          rw [eo_0 (by omega)] at ge
          exact dig q z5 f5 g17 g19 g20 g22 ge (by omega) z6 e6
        | succ k ih =>
          intro q z5 hq hs f5 g17 g19 g20 g22 ge
          rw [st_s140]
          unfold pX8_step_l140
          rw [g19]
          refine sM_byte (hT.T f5) (by omega) _ (sM_ch (lo := 48) (hi := 57) (h2 _) (by decide) (by decide) (by decide) (by decide) _ (fun w m1 m2 => ⟨fun w => absurd w (by decide), fun _ => ?_⟩) (fun nd => ⟨fun _ z6 e6 => ?_, fun w => absurd rfl w⟩))
          · rw [g19, g20, pk_sub (by omega), show (2 : Int32) = nI 2 from rfl, nI_leI (by decide) (by omega)]
            unfold pX8_step_b201
            have go : ∀ v : Nat, v = va T (tS n T p) (q + 1 - tS n T p) → ∀ z6, z6 = mw z5 0 22 (nI v) → ∀ z7, z7 = mw z6 0 19 (z6.1 0 19 + 1) → pX8_step_L140 post (k + 1) z7 := by
              intro v hv z6 e6 z7 e7
              have x19 : z6.1 0 19 = nI q := by rw [e6, mw_k _ _ (by decide)]; exact g19
              rw [x19, nI_1] at e7
              refine ih (q + 1) z7 (by omega) (by omega) (by rw [e7, e6]; exact (f5.w _ (by omega) (by omega)).w _ (by omega) (by omega)) (by rw [e7, mw_k _ _ (by decide), e6, mw_k _ _ (by decide)]; exact g17) (by rw [e7, mw_s]) (by rw [e7, mw_k _ _ (by decide), e6, mw_k _ _ (by decide)]; exact g20) (by rw [e7, mw_k _ _ (by decide), e6, mw_s, hv]) (by rw [ge, eo_1 w ⟨m1, m2⟩])
            refine ⟨fun d => ?_, fun d => sM_byte (hT.T f5) (by omega) _ ?_⟩
            · rw [g22]
              refine go _ ?_
              unfold va
              rw [if_neg (by omega), if_neg (by omega), if_neg (by omega), if_neg (by omega)]
            · have hb := h2 q w
              have e0 : bA n T q = nI (T q) := if_pos w
              by_cases d0 : q = tS n T p
              · have v0 : va T (tS n T p) (q - tS n T p) = 0 := by rw [d0, Nat.sub_self]; rfl
                rw [g22, e0, v0, show (10 : Int32) = nI 10 from rfl, show (48 : Int32) = nI 48 from rfl, pk_mul, nI_add, pk_sub (by omega)]
                refine go _ ?_
                unfold va
                rw [if_neg (by omega), if_pos (by omega), d0]
                omega
              · have d1 : q = tS n T p + 1 := by omega
                have v0 : va T (tS n T p) (q - tS n T p) = T (tS n T p) - 48 := by unfold va; rw [if_neg (by omega), if_pos (by omega)]
                rw [g22, e0, v0, show (10 : Int32) = nI 10 from rfl, show (48 : Int32) = nI 48 from rfl, pk_mul, nI_add, pk_sub (by omega)]
                refine go _ ?_
                unfold va
                rw [if_neg (by omega), if_neg (by omega), ← d1]
                omega
          · rw [eo_0 nd] at ge
            exact dig q z5 f5 g17 g19 g20 g22 ge (by omega) z6 e6
      exact ⟨n - tS n T p + 1, key (n - tS n T p) (tS n T p) z3 (by omega) (Nat.le_refl _) f3 a17 a19 a20 (by rw [Nat.sub_self]; exact a22) k1⟩
    · -- a sign
      have nd : ¬ (48 ≤ T (tS n T p) ∧ T (tS n T p) ≤ 57) := by omega
      obtain ⟨k0, k1, k2⟩ := tk3 c nn nd
      have x19 : z4.1 0 19 = nI (tS n T p) := by rw [e4, mw_k _ _ (by decide)]; exact a19
      rw [x19, nI_1] at e5
      have f5 : frT z z5 := by rw [e5, e4]; exact (f3.w _ (by omega) (by omega)).w _ (by omega) (by omega)
      have o17 : z5.1 0 17 = 0 := by rw [e5, mw_k _ _ (by decide), e4, mw_k _ _ (by decide)]; exact a17
      have o19 : z5.1 0 19 = nI (tS n T p + 1) := by rw [e5, mw_s]
      have o20 : z5.1 0 20 = nI (tS n T p) := by rw [e5, mw_k _ _ (by decide), e4, mw_k _ _ (by decide)]; exact a20
      have o21 : z5.1 0 21 = nI 3 := by rw [e5, mw_k _ _ (by decide), e4, mw_s]; rfl
      rw [show (59 : Int32) = nI 59 from rfl, bA_v (h2 _) (by decide)]
      refine ⟨fun w => ?_, fun w => sM_fails0 o17 _ _ (fun z6 f6 b1 b2 bo => ?_)⟩
      · exact hok (fun q => k2.mp q w.2) z5 ⟨f5, by rw [k1]; exact o19, o20, by rw [k0]; exact o21, fun w => absurd w (by omega)⟩ o17
      · have yx : tX n T p := k2.mpr (fun q => w ⟨c, q⟩)
        exact her yx z6 ⟨f5.tr f6, by rw [bo 19 (by decide) (by decide), k1]; exact o19, by rw [bo 20 (by decide) (by decide)]; exact o20, by rw [bo 21 (by decide) (by decide), k0]; exact o21, fun w => absurd w (by omega)⟩ b1 (by rw [b2]; exact o20)
  -- over the spaces
  have skip : ∀ k q z1, q + k = n → tS n T p = eo n T 32 32 q → frT z z1 → z1.1 0 17 = 0 → z1.1 0 19 = nI q → ∃ w, pX8_step_L8 post w z1 := by
    intro k
    induction k with
    | zero =>
      intro q z1 hq he f1 g17 g19
      rw [eo_0 (by omega)] at he
      exact tok z1 f1 g17 (by rw [he]; exact g19)
    | succ k ih =>
      intro q z1 hq he f1 g17 g19
      by_cases c : 32 ≤ T q ∧ T q ≤ 32
      · have f2 : frT z (mw z1 0 19 (nI (q + 1))) := f1.w _ (by omega) (by omega)
        obtain ⟨w, hw⟩ := ih (q + 1) (mw z1 0 19 (nI (q + 1))) (by omega) (by rw [he, eo_1 (by omega) c]) f2 (by rw [mw_k _ _ (by decide)]; exact g17) (by rw [mw_s])
        refine ⟨w + 1, ?_⟩
        rw [st_s8]
        unfold pX8_step_l8
        rw [g19]
        refine sM_byte (hT.T f1) (by omega) _ ?_
        rw [show (32 : Int32) = nI 32 from rfl, bA_v (h2 _) (by decide)]
        refine ⟨fun w => absurd ⟨by omega, by omega⟩ w, fun _ z2 e2 => ?_⟩
        rw [g19, nI_1] at e2
        rw [e2]
        exact hw
      · rw [eo_0 (Or.inr c)] at he
        exact tok z1 f1 g17 (by rw [he]; exact g19)
  exact skip (n - p) p z (by omega) rfl (frT.rf z) h17 h19
theorem sM_step0 {z : MX} {c : Nat} (hc : 0 < c) (hc2 : c < 2 ^ 31) (h17 : z.1 0 17 = nI c) (post : MX → Prop) (h : post z) : pX8_step z post := by
  unfold pX8_step
  rw [h17]
  exact ⟨fun w => absurd w (nI_nle hc hc2), fun _ => h⟩
