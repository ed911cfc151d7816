/-! starts: both sides -/
noncomputable def stV (A : AL) (o : Option Nat) : Int32 := match o with
  | none => chC (stA A) (2 ^ (2 * A 0 1))
  | some t => if chB (stA A) (2 ^ (2 * A 0 1)) = -4 then -4 else nI ((chB (stA A) (2 ^ (2 * A 0 1))).toNatClampNeg / 4 ^ (A 0 1 - 1 - t) % 4)
def wh (o : Option Nat) : Int32 := match o with
  | none => 0
  | some t => nI (10 + t)
set_option maxHeartbeats 4000000 in
theorem sM_starts {zm : MX} {A : AL} (c : LM zm A) (a : AOK A) (o : Option Nat) (ho : ∀ t, o = some t → t < A 0 1) (post : Int32 → MX → Prop) (h : ∀ zm1, NM zm zm1 → post (stV A o) zm1) : pX8_starts_b25 post zm (wh o) := by
  have hT := a.2.2.1
  have hP := pow_le8 (2 * A 0 1) (by omega)
  have hF : ∀ k, k < 2 ^ (2 * A 0 1) → ROK (stA A k) := fun k hk => (a.st k _ _).R
  unfold pX8_starts_b25
  refine sM_save _ (fun y1 m1 t1 => ?_)
  have hb := ch_ok hF _ (Nat.le_refl _)
  have lays : ∀ {y2 B} (k : Nat) (_ : k < 256) (_ : NMx (fun k => k < 25) zm y2) (_ : ∀ k, k < 25 → y2.1 1 (100 + k) = zm.1 1 k) (_ : LM y2 B) (_ : AOK B) (_ : SB A B) (p : MX → Prop), (∀ y3, NMx (fun k => k < 25) zm y3 → (∀ k, k < 25 → y3.1 1 (100 + k) = zm.1 1 k) → LM y3 (stA A k) → p y3) → pX8_laysStarts y2 (nI k) p := by
    intro y2 B k hk n2 t2 q2 hB hS p hp
    refine sM_lays q2 hB hk _ (fun y3 a1 a2 q3 => hp y3 ⟨fun c hc => by rw [a1 c (by omega)]; exact n2.1 c hc, fun q hq => by rw [a1 0 (by decide)]; exact n2.2.1 q hq, fun q hq hp => by rw [a2 q (by omega)]; exact n2.2.2 q hq hp⟩ (fun q hq => by rw [a2 _ (by omega)]; exact t2 q hq) ?_)
    rw [← hS.e k]; exact q3
  have key : ∀ n k y2 B, k + n = 2 ^ (2 * A 0 1) → NMx (fun k => k < 25) zm y2 → (∀ k, k < 25 → y2.1 1 (100 + k) = zm.1 1 k) → LM y2 B → AOK B → SB A B → pX8_starts_L41 post (n + 1) y2 (wh o) (chB (stA A) k) (lst (chC (stA A) k)) (nI k) := by
    intro n
    induction n with
    | zero =>
      intro k y2 B hk n2 t2 q2 hB hS
      rw [st_s41]
      unfold pX8_starts_l41
      rw [q2.2.1, hS 0 1 (by omega), sh2 hT]
      have ek : k = 2 ^ (2 * A 0 1) := by omega
      rw [ek]
      refine ⟨fun _ => ?_, fun c => absurd (nI_le (Nat.le_refl _) (by omega)) c⟩
      have fin : ∀ y3 v, NMx (fun k => k < 25) zm y3 → (∀ k, k < 25 → y3.1 1 (100 + k) = zm.1 1 k) → v = stV A o → pX8_starts_b168 post y3 v := by
        intro y3 v n3 t3 hv
        unfold pX8_starts_b168
        refine sM_restore n3 t3 _ (fun y4 n4 _ => ?_)
        rw [hv]; exact h y4 n4
      unfold pX8_starts_b134
      rcases hb with ⟨b1, b2⟩ | ⟨cc, jj, w1, w2, w3, w4⟩
      · refine ⟨fun w => absurd b2 w, fun _ => lays 0 (by decide) n2 t2 q2 hB hS _ (fun y3 n3 t3 q3 => ⟨fun w => absurd b2 w, fun _ => fin y3 _ n3 t3 ?_⟩)⟩
        cases o with
        | none => exact b1.symm
        | some t => exact (if_pos b2).symm
      · have nb : chB (stA A) (2 ^ (2 * A 0 1)) ≠ -4 := by rw [w4]; exact nI_neg (by omega) _ (by decide)
        have nc : chC (stA A) (2 ^ (2 * A 0 1)) ≠ -4 := by rw [w3]; exact nI_neg (by omega) _ (by decide)
        refine ⟨fun _ => ?_, fun w => absurd w nb⟩
        rw [w4]
        refine lays jj (by omega) n2 t2 q2 hB hS _ (fun y3 n3 t3 q3 => ⟨fun _ => ?_, fun w => absurd (w4.trans w) nb⟩)
        cases o with
        | none =>
          refine ⟨fun w => absurd rfl w, fun _ => fin y3 _ n3 t3 ?_⟩
          show lst _ = chC _ _
          unfold lst
          rw [if_neg nc]
        | some t =>
          have ht := ho t rfl
          refine ⟨fun _ => ?_, fun w => ?_⟩
          · have ei : ((17 : Int32) + wh (some t)) - (10 : Int32) = nI (9 + 4 * 2 + t) := by
              show ((17 : Int32) + nI (10 + t)) - (10 : Int32) = _
              rw [show (17 : Int32) = nI 17 from rfl, show (10 : Int32) = nI 10 from rfl, nI_add, pk_sub (by omega)]
              congr 1
              omega
            rw [ei, nI_clamp (by omega)]
            refine ⟨vp_in_nI (by omega) (by decide), fin y3 _ n3 t3 ?_⟩
            have e01 : stA A jj 0 1 = A 0 1 := by unfold stA; rw [stP_n _ _ _ _ (by decide)]
            rw [q3.2.2.2.2.2.2.1 t 2 (by rw [e01]; exact ht) (by decide)]
            show _ = (if _ then _ else _)
            rw [if_neg nb, w4, nI_clamp (by omega)]
            unfold stA
            rw [stP_g, if_pos (by omega), show (4 * t + 2) / 4 = t by omega]
          · exact absurd ((nI_eq (a := 10 + t) (b := 0) (by omega) (by decide)).mp w) (by omega)
    | succ n ih =>
      intro k y2 B hk n2 t2 q2 hB hS
      rw [st_s41]
      unfold pX8_starts_l41
      rw [q2.2.1, hS 0 1 (by omega), sh2 hT]
      refine ⟨fun c => absurd c (nI_ge (by omega) (by omega)), fun _ => lays k (by omega) n2 t2 q2 hB hS _ (fun y3 n3 t3 q3 => ?_)⟩
      have hR := hF k (by omega)
      refine sM_run q3 hR _ (fun y4 f4 r4 _ => ?_)
      have n4 := n3.run f4
      have q4 := q3.fr f4
      have t4 : ∀ k, k < 25 → y4.1 1 (100 + k) = zm.1 1 k := fun k hk => by rw [f4.1 1 (by decide) (by decide)]; exact t3 k hk
      have hco := cO_le (aTr (stA A k) 120) (stA A k 0 1)
      have hT2 := hR.2.2.1
      refine sM_homeMany q4 hR r4 _ ?_
      rw [q4.2.1]
      have dec : nI (stA A k 0 1 - cO (aTr (stA A k) 120) (stA A k 0 1)) = nI (stA A k 0 1) ↔ gdK (stA A) k := by
        rw [nI_eq (by omega) (by omega)]
        unfold gdK
        omega
      rw [dec]
      have hO : AOK (stA A k) := a.st k _ _
      have hS2 : SB A (stA A k) := SB_st _ _ _ _ (Nat.le_refl _)
      have no : ¬ (gdK (stA A) k ∧ (chC (stA A) k = -4 ∨ csK (stA A) k < chC (stA A) k)) → pX8_starts_b87 (pX8_starts_L41 post (n + 1)) post y4 (wh o) (chB (stA A) k) (lst (chC (stA A) k)) (nI k) := by
        intro w
        unfold pX8_starts_b87 pX8_starts_b88 pX8_starts_b101 pX8_starts_b115
        refine ⟨fun _ => ⟨fun _ x hx => ?_, fun q => absurd rfl q⟩, fun q => absurd rfl q⟩
        rw [hx, nI_1, ← (ch_n w).1, ← (ch_n w).2]
        exact ih (k + 1) y4 _ (by omega) n4 t4 q4 hO hS2
      refine ⟨fun w => no (fun w2 => w w2.1), fun w => sM_cost q4 hR r4 _ ?_⟩
      show (lst (chC (stA A) k) ≤ csK (stA A) k → _) ∧ (¬ lst (chC (stA A) k) ≤ csK (stA A) k → _)
      rw [lst_lt hF (by omega)]
      refine ⟨fun w2 => no (fun w3 => w2 w3.2), fun w2 => ?_⟩
      have w3 := Classical.byContradiction w2
      unfold pX8_starts_b88 pX8_starts_b101 pX8_starts_b115
      refine ⟨fun q => absurd q (by decide), fun _ => ⟨fun q => absurd q (by decide), fun _ => sM_cost q4 hR r4 _ (fun x hx => ?_)⟩⟩
      rw [hx, nI_1]
      have ihk := ih (k + 1) y4 _ (by omega) n4 t4 q4 hO hS2
      rw [(ch_y ⟨w, w3⟩).1, (ch_y ⟨w, w3⟩).2] at ihk
      have el : lst (csK (stA A) k) = csK (stA A) k := by
        unfold lst
        obtain ⟨cc, c1, c2⟩ := cost_b hR
        rw [if_neg (by show csK (stA A) k ≠ -4; rw [show csK (stA A) k = nI cc from c2]; exact nI_neg (by omega) _ (by decide))]
      rw [el] at ihk
      exact ihk
  exact ⟨2 ^ (2 * A 0 1) + 1, key (2 ^ (2 * A 0 1)) 0 y1 A (by omega) m1.x t1 (c.N m1 hT) a (fun _ _ _ => rfl)⟩
set_option maxHeartbeats 2000000 in
theorem q_starts {zx zm : MX} (h : Rel zx zm) (x : Int32) : pX7_starts zx x (fun r zx1 => pX8_starts zm x (fun r2 zm1 => r = r2 ∧ Rel zx1 zm1)) := by
  have h0 := h
  obtain ⟨A, a, b, c, d, e, f, g, i, j, k⟩ := h
  have hT := a.2.2.1
  have hP := pow_le8 (2 * A 0 1) (by omega)
  have hF : ∀ k, k < 2 ^ (2 * A 0 1) → ROK (stA A k) := fun k hk => (a.st k _ _).R
  have hb := ch_ok hF _ (Nat.le_refl _)
  unfold pX7_starts pX8_starts
  have bodies : ∀ o, (∀ t, o = some t → t < A 0 1) → ∀ post2 : Int32 → MX → Prop, (∀ z1, NX zx z1 → post2 (stV A o) z1) → pX7_starts_b20 post2 zx (wh o) := by
    intro o ho post2 hp
    unfold pX7_starts_b20
    refine sX_starts b a _ (fun z1 n1 b1 => ?_)
    unfold pX7_starts_b42
    rw [b1]
    rcases hb with ⟨w1, w2⟩ | ⟨cc, jj, w1, w2, w3, w4⟩
    · refine ⟨fun _ => ?_, fun q => absurd w2 q⟩
      have := hp z1 n1
      cases o with
      | none => exact this
      | some t =>
        have e1 : stV A (some t) = -4 := if_pos w2
        rw [e1] at this
        rw [w1]; exact this
    · have nb : chB (stA A) (2 ^ (2 * A 0 1)) ≠ -4 := by rw [w4]; exact nI_neg (by omega) _ (by decide)
      refine ⟨fun q => absurd q nb, fun _ => ?_⟩
      cases o with
      | none => exact ⟨fun q => absurd rfl q, fun _ => hp z1 n1⟩
      | some t =>
        have ht := ho t rfl
        refine ⟨fun _ => ?_, fun q => absurd ((nI_eq (a := 10 + t) (b := 0) (by omega) (by decide)).mp q) (by omega)⟩
        rw [(b.N n1 (Or.inl rfl)).2.2.2.1, w4]
        have ex : wh (some t) - 10 = nI t := by
          show nI (10 + t) - 10 = nI t
          rw [show (10 : Int32) = nI 10 from rfl, pk_sub (by omega)]
          congr 1
          omega
        rw [ex]
        refine sX_startIn (by omega) hT ht _ ?_
        have := hp z1 n1
        have e1 : stV A (some t) = nI (jj / 4 ^ (A 0 1 - 1 - t) % 4) := by
          show (if _ then _ else _) = _
          rw [if_neg nb, w4, nI_clamp (by omega)]
        rw [e1] at this
        exact this
  by_cases x0 : x = 0
  · rw [x0]
    refine ⟨fun _ => bodies none (fun _ q => by cases q) _ (fun z1 n1 => ⟨fun _ => ?_, fun q => absurd rfl q⟩), fun q => absurd rfl q⟩
    exact sM_starts c a none (fun _ q => by cases q) _ (fun zm1 m1 => ⟨rfl, h0.N n1 m1⟩)
  · refine ⟨fun q => absurd q x0, fun _ => ?_⟩
    have e9 : (9 : Int32) + zm.1 0 2 = nI (9 + A 0 1) := by rw [c.2.1, show (9 : Int32) = nI 9 from rfl, nI_add]
    rw [e9]
    rcases ix (x - 10) (n := A 0 1) (by omega) with hx | ⟨t, ht, hx⟩
    · refine sX_trN b hx ⟨fun q => absurd rfl q, fun _ => ⟨fun q => absurd q x0, fun _ => ?_⟩⟩
      refine s_iN zm (lo := 10) (hi := nI (9 + A 0 1)) (by decide) rfl ?_ ⟨fun q => absurd rfl q, fun _ => ⟨rfl, h0⟩⟩
      rcases ix x (n := 10 + A 0 1) (by omega) with hy | ⟨m, hm, hy⟩
      · rcases hy with hy | hy
        · left; grind
        · right
          exact fa_trans (nI_lt (a := 9 + A 0 1) (b := 10 + A 0 1) (by omega) (by omega)) hy
      · by_cases q : m < 10
        · left; rw [hy]; exact nI_lt (b := 10) q (by decide)
        · exfalso
          have e1 : x - 10 = nI (m - 10) := by rw [hy, show (10 : Int32) = nI 10 from rfl, pk_sub (by omega)]
          rw [e1] at hx
          rcases hx with hx | hx
          · exact nI_pos (by omega) hx
          · exact nI_ge (a := m - 10) (b := A 0 1) (by omega) (by omega) hx
    · have ex : x = wh (some t) := by
        show x = nI (10 + t)
        rw [← nI_add, ← hx, show nI 10 = (10 : Int32) from rfl]
        grind
      rw [hx]
      refine sX_trY b a ht ⟨fun _ => ?_, fun q => absurd q (by decide)⟩
      rw [ex] at x0 ⊢
      have ho : ∀ u, some t = some u → u < A 0 1 := fun u q => by cases q; exact ht
      refine bodies (some t) ho _ (fun z1 n1 => ⟨fun q => absurd q x0, fun _ => ?_⟩)
      refine s_iY zm (lo := 10) (hi := nI (9 + A 0 1)) (by decide) rfl ?_ ?_ ⟨fun _ => sM_starts c a (some t) ho _ (fun zm1 m1 => ⟨rfl, h0.N n1 m1⟩), fun q => absurd q (by decide)⟩
      · exact nI_le (a := 10) (b := 10 + t) (by omega) (by omega)
      · exact nI_le (a := 10 + t) (b := 9 + A 0 1) (by omega) (by omega)
