/-! what is told of a line, on both sides -/
theorem sh31 : ∀ n, n < 32 → ((nI n &&& 31).toBitVec.smod 32).toNat = n := by decide +kernel
theorem bitN {k b : Nat} (hk : k < 2 ^ 31) (hb : b < 31) : (nI k >>> (nI b &&& 31)) &&& 1 = nI (k / 2 ^ b % 2) := by
  rw [pk_shrN hk _ b (sh31 b (by omega)), pk_andN (n := k / 2 ^ b) (Nat.lt_of_le_of_lt (Nat.div_le_self _ _) (by omega)) (m := 1) 1 (by decide)]
theorem shlN {b : Nat} (hb : b < 31) : (1 : Int32) <<< (nI b &&& 31) = nI (2 ^ b) := by
  have h : (2 : Nat) ^ b < 2 ^ 32 := Nat.pow_lt_pow_right (by decide) (by omega)
  have := pk_shlN (n := 1) (nI b &&& 31) b (sh31 b (by omega)) (by rw [Nat.one_mul]; exact h)
  rw [Nat.one_mul] at this
  exact this
def obN (f : Nat → Nat) : Nat → Nat
  | 0 => 0
  | k + 1 => obN f k + (if f k = 0 then 0 else 2 ^ k)
theorem obN_s (f : Nat → Nat) (k : Nat) : obN f (k + 1) = obN f k + (if f k = 0 then 0 else 2 ^ k) := rfl
theorem obN_lt (f : Nat → Nat) : ∀ k, obN f k < 2 ^ k := by
  intro k
  induction k with
  | zero => exact Nat.one_pos
  | succ k ih =>
    rw [obN_s, Nat.pow_succ]
    by_cases c : f k = 0
    · rw [if_pos c]; omega
    · rw [if_neg c]; omega
theorem obN_zero {f : Nat → Nat} {n : Nat} : ∀ d, (∀ b, n ≤ b → b < n + d → f b = 0) → obN f (n + d) = obN f n := by
  intro d
  induction d with
  | zero => intro _; rfl
  | succ d ih =>
    intro h
    rw [show n + (d + 1) = (n + d) + 1 by omega, obN_s, if_pos (h (n + d) (by omega) (by omega)), ih (fun b h1 h2 => h b h1 (by omega))]
    rfl
theorem obN_8 {A : AL} (hA : AOK A) : obN (A 1) (A 0 0) = obN (A 1) 8 := by
  have h := obN_zero (f := A 1) (n := A 0 0) (8 - A 0 0) (fun b h1 h2 => hA.2.2.2.2.2.2.1 b h1 (by have := hA.2.1; omega))
  rw [show A 0 0 + (8 - A 0 0) = 8 by have := hA.2.1; omega] at h
  exact h.symm
theorem obN_or {a k : Nat} (h : a < 2 ^ k) : nI a ||| nI (2 ^ k) = nI (a + 2 ^ k) := by
  have := fa_or_sum (a := a) (k := k) 1 h
  rw [Nat.mul_one] at this
  rw [fa_or, Nat.or_comm, ← fa_or, this, Nat.add_comm]
theorem sX_omenBits {i : Nat} {z : MX} {A : AL} (hL : ∀ b, b < 8 → z.1 (4 * i + 1) b = nI (A 1 b)) (hA : ∀ b, b < 8 → A 1 b < 5) (post : Int32 → MX → Prop) (h : post (nI (obN (A 1) 8)) z) : pX0_omenBits i z post := by
  have key : ∀ k j, j + k = 8 → pX0_omenBits_L4 i post (k + 1) z (nI (obN (A 1) j)) (nI j) := by
    intro k
    induction k with
    | zero =>
      intro j hj
      show pX0_omenBits_l4 i _ post z _ (nI j)
      unfold pX0_omenBits_l4
      have ej : j = 8 := by omega
      subst ej
      exact ⟨fun _ => h, fun c => absurd (nI_le (Nat.le_refl 8) (by decide)) c⟩
    | succ k ih =>
      intro j hj
      show pX0_omenBits_l4 i _ post z _ (nI j)
      unfold pX0_omenBits_l4
      rw [nI_clamp (by omega), hL j (by omega), shlN (by omega)]
      have h5 := hA j (by omega)
      refine ⟨fun c => absurd c (nI_ge (a := j) (b := 8) (by omega) (by decide)), fun _ => ⟨vp_in_nI (by omega) (by decide), fun c => ?_, fun c => ?_⟩⟩
      · intro x hx
        rw [hx, nI_1]
        have e : A 1 j = 0 := (nI_eq (by omega) (by decide)).mp c
        have := ih (j + 1) (by omega)
        rw [obN_s, if_pos e] at this
        exact this
      · intro y hy x hx
        rw [hx, hy, nI_1, obN_or (obN_lt _ _)]
        have := ih (j + 1) (by omega)
        rw [obN_s, if_neg (fun e => c (by rw [e]; rfl))] at this
        exact this
  exact ⟨9, key 8 0 (by omega)⟩
theorem sM_omens {z : MX} {A : AL} (hL : LM z A) (hA : AOK A) (post : Int32 → MX → Prop) (h : post (nI (obN (A 1) 8)) z) : pX8_omens z post := by
  have hB := hA.2.1
  have key : ∀ k j, j + k = A 0 0 → pX8_omens_L4 post (k + 1) z (nI (obN (A 1) j)) (nI j) := by
    intro k
    induction k with
    | zero =>
      intro j hj
      show pX8_omens_l4 _ post z _ (nI j)
      unfold pX8_omens_l4
      rw [hL.1]
      have ej : j = A 0 0 := by omega
      rw [ej, obN_8 hA]
      exact ⟨fun _ => h, fun c => absurd (nI_le (Nat.le_refl _) (by omega)) c⟩
    | succ k ih =>
      intro j hj
      show pX8_omens_l4 _ post z _ (nI j)
      unfold pX8_omens_l4
      have h5 := hA.2.2.2.2.2.1 j (by omega)
      rw [hL.1, nI_clamp (by omega), hL.2.2.2.2.1 j (by omega), shlN (by omega)]
      refine ⟨fun c => absurd c (nI_ge (by omega) (by omega)), fun _ => ⟨vp_in_nI (by omega) (by decide), fun c => ?_, fun c => ?_⟩⟩
      · intro y hy x hx
        rw [hx, hy, nI_1, Int32.or_zero]
        have e : A 1 j = 0 := by
          have := (nI_leI (a := A 1 j) (b := 0) (by omega) (by decide)).mp c
          omega
        have := ih (j + 1) (by omega)
        rw [obN_s, if_pos e] at this
        exact this
      · intro y hy x hx
        rw [hx, hy, nI_1, obN_or (obN_lt _ _)]
        have := ih (j + 1) (by omega)
        rw [obN_s, if_neg (fun e => c (by rw [e]; decide))] at this
        exact this
  exact ⟨A 0 0 + 1, key (A 0 0) 0 (by omega)⟩
def lwF (A : AL) (b : Nat) : Nat → Int32
  | 0 => 0
  | l + 1 => (lwF A b l ||| (if A 2 (2 * l) = b then 1 <<< (nI (A 2 (2 * l + 1)) &&& 31) else 0)) ||| (if A 2 (2 * l + 1) = b then 1 <<< (nI (A 2 (2 * l)) &&& 31) else 0)
theorem sX_lockedWith {i : Nat} {z : MX} {A : AL} (hL : LX i z A) (hA : AOK A) {b : Nat} (hb : b < 8) (post : Int32 → MX → Prop) (h : post (lwF A b (A 0 2)) z) : pX0_lockedWith i z (nI b) post := by
  have hB := hA.2.1
  have hN := hA.2.2.2.1
  have hE := hA.2.2.2.2.2.2.2.1
  have key : ∀ k j, j + k = A 0 2 → pX0_lockedWith_L4 i post (k + 1) z (nI b) (lwF A b j) (nI j) := by
    intro k
    induction k with
    | zero =>
      intro j hj
      show pX0_lockedWith_l4 i _ post z _ _ (nI j)
      unfold pX0_lockedWith_l4
      rw [hL.2.2.1]
      have ej : j = A 0 2 := by omega
      rw [ej]
      exact ⟨fun _ => h, fun c => absurd (nI_le (Nat.le_refl _) (by omega)) c⟩
    | succ k ih =>
      intro j hj
      show pX0_lockedWith_l4 i _ post z _ _ (nI j)
      unfold pX0_lockedWith_l4
      have e1 : (2 : Int32) * nI j = nI (2 * j) := by rw [show (2 : Int32) = nI 2 from rfl, pk_mul]
      have h1 := hE (2 * j) (by omega)
      have h2 := hE (2 * j + 1) (by omega)
      rw [hL.2.2.1, e1, nI_1, nI_clamp (n := 2 * j) (by omega), nI_clamp (n := 2 * j + 1) (by omega), hL.2.2.2.2.2.1 (2 * j) (by omega), hL.2.2.2.2.2.1 (2 * j + 1) (by omega)]
      have go : ∀ v, v = lwF A b (j + 1) → pX0_lockedWith_b69 i (pX0_lockedWith_L4 i post (k + 1)) post z (nI b) v (nI j) := by
        intro v hv x hx
        rw [hx, nI_1, hv]
        exact ih (j + 1) (by omega)
      refine ⟨fun c => absurd c (nI_ge (by omega) (by omega)), fun _ => ⟨vp_in_nI (by omega) (by decide), fun c => ⟨vp_in_nI (by omega) (by decide), fun d => ?_, fun d => ⟨vp_in_nI (by omega) (by decide), fun x hx => ?_⟩⟩, fun c => ⟨vp_in_nI (by omega) (by decide), fun x hx => ?_⟩⟩⟩
      · refine go _ ?_
        show _ = (lwF A b j ||| _) ||| _
        rw [if_neg (fun e => c (by rw [e])), if_neg (fun e => d (by rw [e])), Int32.or_zero, Int32.or_zero]
      · refine go _ ?_
        show _ = (lwF A b j ||| _) ||| _
        rw [hx, if_neg (fun e => c (by rw [e])), if_pos ((nI_eq (by omega) (by omega)).mp d), Int32.or_zero]
      · refine go _ ?_
        show _ = (lwF A b j ||| _) ||| _
        have ec := (nI_eq (by omega) (by omega)).mp c
        rw [hx, if_pos ec]
        by_cases d : A 2 (2 * j + 1) = b
        · rw [if_pos d, d, ec, Int32.or_assoc, Int32.or_self]
        · rw [if_neg d, Int32.or_zero]
  exact ⟨A 0 2 + 1, key (A 0 2) 0 (by omega)⟩
theorem sM_lockedWith {z : MX} {A : AL} (hL : LM z A) (hA : AOK A) {b : Nat} (hb : b < 8) (post : Int32 → MX → Prop) (h : post (lwF A b (A 0 2)) z) : pX8_lockedWith z (nI b) post := by
  have hB := hA.2.1
  have hN := hA.2.2.2.1
  have hE := hA.2.2.2.2.2.2.2.1
  have key : ∀ k j, j + k = A 0 2 → pX8_lockedWith_L4 post (k + 1) z (nI b) (lwF A b j) (nI j) := by
    intro k
    induction k with
    | zero =>
      intro j hj
      show pX8_lockedWith_l4 _ post z _ _ (nI j)
      unfold pX8_lockedWith_l4
      rw [hL.2.2.1]
      have ej : j = A 0 2 := by omega
      rw [ej]
      exact ⟨fun _ => h, fun c => absurd (nI_le (Nat.le_refl _) (by omega)) c⟩
    | succ k ih =>
      intro j hj
      show pX8_lockedWith_l4 _ post z _ _ (nI j)
      have e1 : (2 : Int32) * nI j = nI (2 * j) := by rw [show (2 : Int32) = nI 2 from rfl, pk_mul]
      have h1 := hE (2 * j) (by omega)
      have h2 := hE (2 * j + 1) (by omega)
      have b41 : ∀ v, v = (if A 2 (2 * j) = b then 1 <<< (nI (A 2 (2 * j + 1)) &&& 31) else 0) → pX8_lockedWith_b41 (pX8_lockedWith_L4 post (k + 1)) post z (nI b) (nI j) (lwF A b j) v := by
        intro v hv x hx
        rw [e1, nI_1, nI_clamp (n := 2 * j) (by omega), nI_clamp (n := 2 * j + 1) (by omega), hL.2.2.2.2.2.1 (2 * j) (by omega), hL.2.2.2.2.2.1 (2 * j + 1) (by omega)]
        refine ⟨vp_in_nI (by omega) (by decide), fun d => ?_, fun d => ⟨vp_in_nI (by omega) (by decide), ?_⟩⟩
        · intro y hy w hw
          rw [hw, hy, nI_1, hx, hv]
          have := ih (j + 1) (by omega)
          rw [show lwF A b (j + 1) = (lwF A b j ||| _) ||| _ from rfl, if_neg (c := A 2 (2 * j + 1) = b) (fun e => d (by rw [e]))] at this
          exact this
        · intro y hy w hw
          rw [hw, hy, nI_1, hx, hv]
          have := ih (j + 1) (by omega)
          rw [show lwF A b (j + 1) = (lwF A b j ||| _) ||| _ from rfl, if_pos (c := A 2 (2 * j + 1) = b) ((nI_eq (by omega) (by omega)).mp d)] at this
          exact this
      unfold pX8_lockedWith_l4
      rw [hL.2.2.1, e1, nI_1, nI_clamp (n := 2 * j) (by omega), nI_clamp (n := 2 * j + 1) (by omega), hL.2.2.2.2.2.1 (2 * j) (by omega), hL.2.2.2.2.2.1 (2 * j + 1) (by omega)]
      exact ⟨fun c => absurd c (nI_ge (by omega) (by omega)), fun _ => ⟨vp_in_nI (by omega) (by decide), fun c => b41 _ (by rw [if_neg (fun e => c (by rw [e]))]), fun c => ⟨vp_in_nI (by omega) (by decide), b41 _ (by rw [if_pos ((nI_eq (by omega) (by omega)).mp c)])⟩⟩⟩
  exact ⟨A 0 2 + 1, key (A 0 2) 0 (by omega)⟩
/-- sets of blocks that locks allow -/
def alP (A : AL) (k n : Nat) : Prop := ∀ l, l < n → ¬ (k / 2 ^ A 2 (2 * l) % 2 = 1 ∧ k / 2 ^ A 2 (2 * l + 1) % 2 = 1)
theorem both : ∀ a, a < 8 → ∀ b, b < 8 → ∀ k, k < 256 → ((nI k &&& (nI (2 ^ a) ||| nI (2 ^ b))) = (nI (2 ^ a) ||| nI (2 ^ b)) ↔ k / 2 ^ a % 2 = 1 ∧ k / 2 ^ b % 2 = 1) := by decide +kernel
theorem sX_allows {i : Nat} {z : MX} {A : AL} (hl : z.1 (4 * i) 2 = nI (A 0 2)) (hL : ∀ j, j < 2 * A 0 2 → z.1 (4 * i + 2) j = nI (A 2 j)) (hN : A 0 2 ≤ 4) (hE : ∀ j, j < 2 * A 0 2 → A 2 j < 8) {k : Nat} (hk : k < 256) (post : Int32 → MX → Prop) (h1 : alP A k (A 0 2) → post 1 z) (h0 : ¬ alP A k (A 0 2) → post 0 z) : pX0_allowsOmensIn i z (nI k) post := by
  have key : ∀ n j, j + n = A 0 2 → alP A k j → pX0_allowsOmensIn_L2 i post (n + 1) z (nI k) (nI j) := by
    intro n
    induction n with
    | zero =>
      intro j hj ha
      show pX0_allowsOmensIn_l2 i _ post z _ (nI j)
      unfold pX0_allowsOmensIn_l2
      rw [hl]
      have ej : j = A 0 2 := by omega
      rw [ej] at ha ⊢
      exact ⟨fun _ => ⟨Or.inr rfl, h1 ha⟩, fun c => absurd (nI_le (Nat.le_refl _) (by omega)) c⟩
    | succ n ih =>
      intro j hj ha
      show pX0_allowsOmensIn_l2 i _ post z _ (nI j)
      unfold pX0_allowsOmensIn_l2
      have e1 : (2 : Int32) * nI j = nI (2 * j) := by rw [show (2 : Int32) = nI 2 from rfl, pk_mul]
      have a1 := hE (2 * j) (by omega)
      have a2 := hE (2 * j + 1) (by omega)
      rw [hl, e1, nI_1, nI_clamp (n := 2 * j) (by omega), nI_clamp (n := 2 * j + 1) (by omega), hL (2 * j) (by omega), hL (2 * j + 1) (by omega), shlN (by omega), shlN (by omega)]
      refine ⟨fun c => absurd c (nI_ge (by omega) (by omega)), fun _ => ⟨vp_in_nI (by omega) (by decide), vp_in_nI (by omega) (by decide), fun x hx => ?_⟩⟩
      rw [hx, both _ a1 _ a2 _ hk]
      refine ⟨fun c y hy => ?_, fun c => ⟨Or.inl rfl, h0 (fun q => q j (by omega) c)⟩⟩
      rw [hy, nI_1]
      refine ih (j + 1) (by omega) (fun l hl2 => ?_)
      by_cases e : l = j
      · rw [e]; exact c
      · exact ha l (by omega)
  exact ⟨A 0 2 + 1, key (A 0 2) 0 (by omega) (fun l hl2 => absurd hl2 (by omega))⟩
theorem LX.allows {i : Nat} {z : MX} {A : AL} (hL : LX i z A) (hA : AOK A) {k : Nat} (hk : k < 256) (post : Int32 → MX → Prop) (h1 : alP A k (A 0 2) → post 1 z) (h0 : ¬ alP A k (A 0 2) → post 0 z) : pX0_allowsOmensIn i z (nI k) post :=
  sX_allows hL.2.2.1 hL.2.2.2.2.2.1 hA.2.2.2.1 (fun j hj => Nat.lt_of_lt_of_le (hA.2.2.2.2.2.2.2.1 j hj) hA.2.1) hk post h1 h0
theorem sM_allowed {z : MX} {A : AL} (hL : LM z A) (hA : AOK A) {k : Nat} (hk : k < 256) (post : Int32 → MX → Prop) (h1 : alP A k (A 0 2) → post 1 z) (h0 : ¬ alP A k (A 0 2) → post 0 z) : pX8_isAllowed z (nI k) post := by
  have hB := hA.2.1
  have hN := hA.2.2.2.1
  have hE := hA.2.2.2.2.2.2.2.1
  have key : ∀ n j v, j + n = A 0 2 → (v = 1 ∧ alP A k j ∨ v = 0 ∧ ¬ alP A k j) → pX8_isAllowed_L4 post (n + 1) z (nI k) v (nI j) := by
    intro n
    induction n with
    | zero =>
      intro j v hj hv
      show pX8_isAllowed_l4 _ post z _ _ (nI j)
      unfold pX8_isAllowed_l4
      rw [hL.2.2.1]
      have ej : j = A 0 2 := by omega
      rw [ej] at hv ⊢
      refine ⟨fun _ => ?_, fun c => absurd (nI_le (Nat.le_refl _) (by omega)) c⟩
      rcases hv with ⟨rfl, q⟩ | ⟨rfl, q⟩
      · exact ⟨Or.inr rfl, h1 q⟩
      · exact ⟨Or.inl rfl, h0 q⟩
    | succ n ih =>
      intro j v hj hv
      show pX8_isAllowed_l4 _ post z _ _ (nI j)
      unfold pX8_isAllowed_l4
      have e1 : (2 : Int32) * nI j = nI (2 * j) := by rw [show (2 : Int32) = nI 2 from rfl, pk_mul]
      have a1 := hE (2 * j) (by omega)
      have a2 := hE (2 * j + 1) (by omega)
      rw [hL.2.2.1, e1, nI_1, nI_clamp (n := 2 * j) (by omega), nI_clamp (n := 2 * j + 1) (by omega), hL.2.2.2.2.2.1 (2 * j) (by omega), hL.2.2.2.2.2.1 (2 * j + 1) (by omega), bitN (by omega) (by omega), bitN (by omega) (by omega)]
      have m2 : ∀ a : Nat, a % 2 < 2 := fun a => Nat.mod_lt _ (by decide)
      have go : ∀ w, (w = 1 ∧ alP A k (j + 1) ∨ w = 0 ∧ ¬ alP A k (j + 1)) → pX8_isAllowed_b53 (pX8_isAllowed_L4 post (n + 1)) post z (nI k) (nI j) w := by
        intro w hw x hx
        rw [hx, nI_1]
        exact ih (j + 1) w (by omega) hw
      refine ⟨fun c => absurd c (nI_ge (by omega) (by omega)), fun _ => ⟨fun c => ?_, fun c => ?_⟩⟩
      · rcases hv with ⟨e, q⟩ | ⟨e, q⟩
        · rw [c] at e; exact absurd e (by decide)
        · exact go 0 (Or.inr ⟨rfl, fun q2 => q (fun l hl => q2 l (by omega))⟩)
      · rcases hv with ⟨e, q⟩ | ⟨e, q⟩
        · refine ⟨vp_in_nI (by omega) (by decide), fun d => ?_, fun d => ⟨vp_in_nI (by omega) (by decide), fun g => ?_, fun g => ?_⟩⟩
          · have d' := (nI_eq (b := 0) (by have := m2 (k / 2 ^ A 2 (2 * j)); omega) (by decide)).mp d
            refine go 1 (Or.inl ⟨rfl, fun l hl => ?_⟩)
            by_cases el : l = j
            · rw [el]; exact fun w => by omega
            · exact q l (by omega)
          · have d' : ¬ k / 2 ^ A 2 (2 * j) % 2 = 0 := fun w => d (by rw [w]; rfl)
            have g' : ¬ k / 2 ^ A 2 (2 * j + 1) % 2 = 0 := fun w => g (by rw [w]; rfl)
            exact go 0 (Or.inr ⟨rfl, fun q2 => q2 j (by omega) ⟨by have := m2 (k / 2 ^ A 2 (2 * j)); omega, by have := m2 (k / 2 ^ A 2 (2 * j + 1)); omega⟩⟩)
          · have g' := (nI_eq (b := 0) (by have := m2 (k / 2 ^ A 2 (2 * j + 1)); omega) (by decide)).mp g
            refine go 1 (Or.inl ⟨rfl, fun l hl => ?_⟩)
            by_cases el : l = j
            · rw [el]; exact fun w => by omega
            · exact q l (by omega)
        · exact absurd e c
  exact ⟨A 0 2 + 1, key (A 0 2) 0 1 (by omega) (Or.inl ⟨rfl, fun l hl => absurd hl (by omega)⟩)⟩
/-- bits counted -/
def pcN : Nat → Nat
  | 0 => 0
  | n + 1 => (n + 1) % 2 + pcN ((n + 1) / 2)
theorem sX_bits {z : MX} {k : Nat} (hk : k < 256) (post : Int32 → MX → Prop) (h : post (nI (pcN k)) z) : pJ6_bitCount_0f7a4 z (nI k) post := by
  have key : ∀ k, k < 256 → ∀ x1, x1 = nI k - (((nI k).toUInt32 >>> (Int32.toUInt32 1 &&& Int32.toUInt32 31)).toInt32 &&& 1431655765) → ∀ x2, x2 = (x1 &&& 858993459) + ((x1.toUInt32 >>> (Int32.toUInt32 2 &&& Int32.toUInt32 31)).toInt32 &&& 858993459) → ∀ x3, x3 = (x2 + (x2.toUInt32 >>> (Int32.toUInt32 4 &&& Int32.toUInt32 31)).toInt32) &&& 252645135 → ∀ x4, x4 = x3 + (x3.toUInt32 >>> (Int32.toUInt32 8 &&& Int32.toUInt32 31)).toInt32 → ∀ x5, x5 = x4 + (x4.toUInt32 >>> (Int32.toUInt32 16 &&& Int32.toUInt32 31)).toInt32 → x5 &&& 63 = nI (pcN k) := by
    have : ∀ k, k < 256 → (fun x4 : Int32 => (fun x5 : Int32 => x5 &&& 63) (x4 + (x4.toUInt32 >>> (Int32.toUInt32 16 &&& Int32.toUInt32 31)).toInt32)) ((fun x3 : Int32 => x3 + (x3.toUInt32 >>> (Int32.toUInt32 8 &&& Int32.toUInt32 31)).toInt32) ((fun x2 : Int32 => (x2 + (x2.toUInt32 >>> (Int32.toUInt32 4 &&& Int32.toUInt32 31)).toInt32) &&& 252645135) ((fun x1 : Int32 => (x1 &&& 858993459) + ((x1.toUInt32 >>> (Int32.toUInt32 2 &&& Int32.toUInt32 31)).toInt32 &&& 858993459)) (nI k - (((nI k).toUInt32 >>> (Int32.toUInt32 1 &&& Int32.toUInt32 31)).toInt32 &&& 1431655765))))) = nI (pcN k) := by decide +kernel
    intro k hk x1 h1 x2 h2 x3 h3 x4 h4 x5 h5
    rw [h5, h4, h3, h2, h1]
    exact this k hk
  intro x1 h1 x2 h2 x3 h3 x4 h4 x5 h5
  rw [key k hk x1 h1 x2 h2 x3 h3 x4 h4 x5 h5]
  exact h
theorem sM_bits {z : MX} {k : Nat} (hk : k < 256) (post : Int32 → MX → Prop) (h : post (nI (pcN k)) z) : pX8_bitsOf z (nI k) post := by
  have pc : ∀ k, k < 256 → 0 + k / 2 ^ 0 % 2 + k / 2 ^ 1 % 2 + k / 2 ^ 2 % 2 + k / 2 ^ 3 % 2 + k / 2 ^ 4 % 2 + k / 2 ^ 5 % 2 + k / 2 ^ 6 % 2 + k / 2 ^ 7 % 2 = pcN k := by decide +kernel
  have st : ∀ (n j v : Nat), j < 8 → pX8_bitsOf_L4 post (n + 1) z (nI k) (nI (v + k / 2 ^ j % 2)) (nI (j + 1)) → pX8_bitsOf_L4 post (n + 2) z (nI k) (nI v) (nI j) := by
    intro n j v hj hn
    show pX8_bitsOf_l4 _ post z _ _ (nI j)
    unfold pX8_bitsOf_l4
    refine ⟨fun c => absurd c (nI_ge (a := j) (b := 8) (by omega) (by decide)), fun _ x hx y hy => ?_⟩
    rw [hx, hy, nI_1, bitN (by omega) (by omega), nI_add]
    exact hn
  refine ⟨9, st 7 0 0 (by omega) (st 6 1 _ (by omega) (st 5 2 _ (by omega) (st 4 3 _ (by omega) (st 3 4 _ (by omega) (st 2 5 _ (by omega) (st 1 6 _ (by omega) (st 0 7 _ (by omega) ?_)))))))⟩
  rw [pc k hk]
  show pX8_bitsOf_l4 _ post z _ _ (nI 8)
  unfold pX8_bitsOf_l4
  exact ⟨fun _ => h, fun c => absurd (nI_le (Nat.le_refl 8) (by decide)) c⟩
