/-! copies; sets of blocks; the fewest guards -/
theorem NX.mw {z z1 : MX} (h : NX z z1) {c : Nat} (k : Nat) (v : Int32) (hc : 4 ≤ c ∧ c ≤ 7 ∨ 26 ≤ c ∧ c ≤ 32 ∨ c = 37) : NX z (mw z1 c k v) := ⟨fun a ha => by rw [mw_n _ _ _ (by omega)]; exact h.1 a ha, by rw [mw_n _ _ _ (by omega)]; exact h.2.1, by rw [mw_n _ _ _ (by omega)]; exact h.2.2⟩
theorem sX_copy {i i1 : Nat} (hne : i ≠ i1) {z : MX} {A : AL} (hL : LX i1 z A) (hN : A 0 2 ≤ 4) (hT : A 0 1 ≤ 4) (post : MX → Prop) (h : ∀ z1, fr (4 * i) (4 * i + 3) z z1 → LX i z1 A → post z1) : pX0_copyFrom i i1 z post := by
  intro z1 e1 z2 e2 z3 e3 z4 e4 z5 e5 z6 e6 z7 e7
  have f4 : fr (4 * i) (4 * i) z z4 := by
    rw [e4, e3, e2, e1]
    exact ((((fr.rf (4 * i) (4 * i) z).mw _ _ (by omega) (by omega)).mw _ _ (by omega) (by omega)).mw _ _ (by omega) (by omega)).mw _ _ (by omega) (by omega)
  have g1 : z1.1 (4 * i1) = z.1 (4 * i1) := by rw [e1, mw_n _ _ _ (by omega)]
  have g2 : z2.1 (4 * i1) = z.1 (4 * i1) := by rw [e2, mw_n _ _ _ (by omega), g1]
  have g3 : z3.1 (4 * i1) = z.1 (4 * i1) := by rw [e3, mw_n _ _ _ (by omega), g2]
  have c0 : z4.1 (4 * i) 0 = z.1 (4 * i1) 0 ∧ z4.1 (4 * i) 1 = z.1 (4 * i1) 1 ∧ z4.1 (4 * i) 2 = z.1 (4 * i1) 2 ∧ z4.1 (4 * i) 3 = z.1 (4 * i1) 3 := by
    rw [e4, mw_s, mw_k _ _ (by decide), mw_k _ _ (by decide), mw_k _ _ (by decide), e3, mw_s, mw_k _ _ (by decide), mw_k _ _ (by decide), e2, mw_s, mw_k _ _ (by decide), e1, mw_s]
    rw [← e1, ← e2, ← e3, g1, g2, g3]
    exact ⟨rfl, rfl, rfl, rfl⟩
  have f5 : fr (4 * i) (4 * i + 3) z z5 := by rw [e5]; exact (f4.wide (by omega) (by omega)).mf _ (by omega) (by omega)
  have f6 : fr (4 * i) (4 * i + 3) z z6 := by rw [e6]; exact f5.mf _ (by omega) (by omega)
  have f7 : fr (4 * i) (4 * i + 3) z z7 := by rw [e7]; exact f6.mf _ (by omega) (by omega)
  have d0 : z7.1 (4 * i) = z4.1 (4 * i) := by rw [e7, mf_ne _ _ (by omega), e6, mf_ne _ _ (by omega), e5, mf_ne _ _ (by omega)]
  have d1 : ∀ b, b < 8 → z7.1 (4 * i + 1) b = z.1 (4 * i1 + 1) b := by
    intro b hb
    rw [e7, mf_ne _ _ (by omega), e6, mf_ne _ _ (by omega), e5, mf_at, pk_cpy_in (by omega) (by omega), f4.1 (4 * i1 + 1) (by omega), show 0 + (b - 0) = b by omega]
  have d2 : ∀ b, b < 8 → z7.1 (4 * i + 2) b = z.1 (4 * i1 + 2) b := by
    intro b hb
    rw [e7, mf_ne _ _ (by omega), e6, mf_at, pk_cpy_in (by omega) (by omega), f5.1 (4 * i1 + 2) (by omega), show 0 + (b - 0) = b by omega]
  have d3 : ∀ b, b < 16 → z7.1 (4 * i + 3) b = z.1 (4 * i1 + 3) b := by
    intro b hb
    rw [e7, mf_at, pk_cpy_in (by omega) (by omega), f6.1 (4 * i1 + 3) (by omega), show 0 + (b - 0) = b by omega]
  refine h z7 f7 ?_
  obtain ⟨h1, h2, h3, h4, h5, h6, h7⟩ := hL
  unfold LX
  rw [d0, c0.1, c0.2.1, c0.2.2.1, c0.2.2.2]
  exact ⟨h1, h2, h3, h4, fun b hb => by rw [d1 b hb]; exact h5 b hb, fun j hj => by rw [d2 j (by omega)]; exact h6 j hj, fun t w ht hw => by rw [d3 _ (by omega)]; exact h7 t w ht hw⟩
theorem sM_copies {z : MX} {p q : Nat} (hd : p + 25 ≤ q ∨ q + 25 ≤ p) (hp : p ≤ 100) (hq : q ≤ 100) (post : MX → Prop) (h : ∀ z1, (∀ c, c ≠ 1 → z1.1 c = z.1 c) → z1.2 = z.2 → (∀ k, z1.1 1 k = if q ≤ k ∧ k < q + 25 then z.1 1 (p + (k - q)) else z.1 1 k) → post z1) : pX8_copies z (nI p) (nI q) post := by
  have key : ∀ n j z2, j + n = 25 → (∀ c, c ≠ 1 → z2.1 c = z.1 c) → z2.2 = z.2 → (∀ k, z2.1 1 k = if q ≤ k ∧ k < q + j then z.1 1 (p + (k - q)) else z.1 1 k) → pX8_copies_L2 post (n + 1) z2 (nI p) (nI q) (nI j) := by
    intro n
    induction n with
    | zero =>
      intro j z2 hj a1 a2 a3
      show pX8_copies_l2 _ post z2 _ _ (nI j)
      unfold pX8_copies_l2
      have ej : j = 25 := by omega
      subst ej
      exact ⟨fun _ => h z2 a1 a2 a3, fun c => absurd (nI_le (Nat.le_refl 25) (by decide)) c⟩
    | succ n ih =>
      intro j z2 hj a1 a2 a3
      show pX8_copies_l2 _ post z2 _ _ (nI j)
      unfold pX8_copies_l2
      rw [nI_add, nI_add, nI_clamp (n := p + j) (by omega), nI_clamp (n := q + j) (by omega)]
      refine ⟨fun c => absurd c (nI_ge (a := j) (b := 25) (by omega) (by decide)), fun _ => ⟨vp_in_nI (by omega) (by decide), vp_in_nI (by omega) (by decide), fun z3 e3 x hx => ?_⟩⟩
      rw [hx, nI_1]
      refine ih (j + 1) z3 (by omega) (fun c hc => by rw [e3, mw_n _ _ _ hc]; exact a1 c hc) (by rw [e3]; exact a2) (fun k => ?_)
      rw [e3, mw_g]
      by_cases e : k = q + j
      · rw [if_pos ⟨rfl, e⟩, if_pos (by omega), a3, if_neg (by omega), show p + (k - q) = p + j by omega]
      · rw [if_neg (fun w => e w.2), a3]
        by_cases l : q ≤ k ∧ k < q + j
        · rw [if_pos l, if_pos (by omega)]
        · rw [if_neg l, if_neg (by omega)]
  exact ⟨26, key 25 0 z (by omega) (fun _ _ => rfl) rfl (fun k => by rw [if_neg (by omega)])⟩
/-- magpies in a set of blocks -/
def mgJ (A : AL) (k j : Nat) : AL := fun a b => if a = 1 ∧ b < j ∧ k / 2 ^ b % 2 = 1 then 1 else A a b
theorem mgJ_g (A : AL) (k j a b : Nat) : mgJ A k j a b = if a = 1 ∧ b < j ∧ k / 2 ^ b % 2 = 1 then 1 else A a b := rfl
theorem mgJ_n (A : AL) (k j : Nat) {a : Nat} (h : a ≠ 1) : mgJ A k j a = A a := by
  funext b
  rw [mgJ_g, if_neg (fun w => h w.1)]
theorem mgJ_0 (A : AL) (k : Nat) : mgJ A k 0 = A := by
  funext a b
  rw [mgJ_g, if_neg (by omega)]
theorem mgJ_s (A : AL) {k j : Nat} (h : k / 2 ^ j % 2 = 1) : mgJ A k (j + 1) = Au (mgJ A k j) 1 j 1 := by
  funext a b
  rw [mgJ_g, Au_g, mgJ_g]
  by_cases e : a = 1 ∧ b = j
  · rw [if_pos e, if_pos ⟨e.1, by omega, by rw [e.2]; exact h⟩]
  · rw [if_neg e]
    by_cases l : a = 1 ∧ b < j ∧ k / 2 ^ b % 2 = 1
    · rw [if_pos l, if_pos ⟨l.1, by omega, l.2.2⟩]
    · rw [if_neg l, if_neg (fun w => l ⟨w.1, by have := w.2.1; have : b ≠ j := fun q => e ⟨w.1, q⟩; omega, w.2.2⟩)]
theorem mgJ_t (A : AL) {k j : Nat} (h : ¬ k / 2 ^ j % 2 = 1) : mgJ A k (j + 1) = mgJ A k j := by
  funext a b
  rw [mgJ_g, mgJ_g]
  by_cases l : a = 1 ∧ b < j ∧ k / 2 ^ b % 2 = 1
  · rw [if_pos l, if_pos ⟨l.1, by omega, l.2.2⟩]
  · rw [if_neg l, if_neg (fun w => l ⟨w.1, by have := w.2.1; have : b ≠ j := fun q => h (by rw [← q]; exact w.2.2); omega, w.2.2⟩)]
def mgA (A : AL) (k : Nat) : AL := mgJ A k (A 0 0)
theorem AOK.m {A : AL} (h : AOK A) (k : Nat) : AOK (mgA A k) := by
  obtain ⟨h1, h2, h3, h4, h5, h6, h7, h8, h9⟩ := h
  unfold AOK mgA
  rw [mgJ_n A k _ (by decide), mgJ_n A k _ (by decide : (2 : Nat) ≠ 1), mgJ_n A k _ (by decide : (3 : Nat) ≠ 1)]
  refine ⟨h1, h2, h3, h4, h5, fun b hb => ?_, fun b hb hb2 => ?_, h8, h9⟩
  · rw [mgJ_g]
    by_cases c : 1 = 1 ∧ b < A 0 0 ∧ k / 2 ^ b % 2 = 1
    · rw [if_pos c]; decide
    · rw [if_neg c]; exact h6 b hb
  · rw [mgJ_g, if_neg (by omega)]
    exact h7 b hb hb2
theorem m2n (a : Nat) : a % 2 = 0 ∨ a % 2 = 1 := by omega
theorem sX_magpies {i : Nat} {z : MX} {A : AL} (hL : LX i z A) (hA : AOK A) {k : Nat} (hk : k < 256) (post : MX → Prop) (h : ∀ z1, fr (4 * i + 1) (4 * i + 1) z z1 → LX i z1 (mgA A k) → post z1) : pX0_hangMagpiesIn i z (nI k) post := by
  have hB := hA.2.1
  have key : ∀ n j z2, j + n = A 0 0 → fr (4 * i + 1) (4 * i + 1) z z2 → LX i z2 (mgJ A k j) → pX0_hangMagpiesIn_L2 i post (n + 1) z2 (nI k) (nI j) := by
    intro n
    induction n with
    | zero =>
      intro j z2 hj f2 q2
      show pX0_hangMagpiesIn_l2 i _ post z2 _ (nI j)
      unfold pX0_hangMagpiesIn_l2
      rw [q2.1, mgJ_n _ _ _ (by decide)]
      have ej : j = A 0 0 := by omega
      rw [ej] at q2 ⊢
      exact ⟨fun _ => h z2 f2 q2, fun c => absurd (nI_le (Nat.le_refl _) (by omega)) c⟩
    | succ n ih =>
      intro j z2 hj f2 q2
      show pX0_hangMagpiesIn_l2 i _ post z2 _ (nI j)
      unfold pX0_hangMagpiesIn_l2
      rw [q2.1, mgJ_n _ _ _ (by decide), bitN (by omega) (by omega)]
      refine ⟨fun c => absurd c (nI_ge (by omega) (by omega)), fun _ => ⟨fun c => ?_, fun c => ?_⟩⟩
      · intro x hx
        rw [hx, nI_1]
        have c' : ¬ k / 2 ^ j % 2 = 1 := fun w => by rw [w] at c; exact absurd c (by decide)
        exact ih (j + 1) z2 (by omega) f2 (by rw [mgJ_t _ c']; exact q2)
      · rw [nI_clamp (by omega)]
        refine ⟨vp_in_nI (by omega) (by decide), fun z3 e3 x hx => ?_⟩
        rw [hx, nI_1]
        have c' : k / 2 ^ j % 2 = 1 := (m2n _).resolve_left (fun w => c (by rw [w]; rfl))
        refine ih (j + 1) z3 (by omega) (by rw [e3]; exact f2.mw _ _ (by omega) (by omega)) ?_
        rw [mgJ_s _ c', e3]
        exact q2.o j 1
  exact ⟨A 0 0 + 1, key (A 0 0) 0 z (by omega) (fr.rf _ _ z) (by rw [mgJ_0]; exact hL)⟩
theorem sM_magpies {z : MX} {A : AL} (hL : LM z A) (hA : AOK A) {k : Nat} (hk : k < 256) (post : MX → Prop) (h : ∀ z1, (∀ c, c ≠ 1 → z1.1 c = z.1 c) → (∀ q, 8 ≤ q → z1.1 1 q = z.1 1 q) → LM z1 (mgA A k) → post z1) : pX8_magpiesIn z (nI k) post := by
  have hB := hA.2.1
  have key : ∀ n j z2, j + n = A 0 0 → (∀ c, c ≠ 1 → z2.1 c = z.1 c) → (∀ q, 8 ≤ q → z2.1 1 q = z.1 1 q) → LM z2 (mgJ A k j) → pX8_magpiesIn_L2 post (n + 1) z2 (nI k) (nI j) := by
    intro n
    induction n with
    | zero =>
      intro j z2 hj a1 a2 q2
      show pX8_magpiesIn_l2 _ post z2 _ (nI j)
      unfold pX8_magpiesIn_l2
      rw [q2.1, mgJ_n _ _ _ (by decide)]
      have ej : j = A 0 0 := by omega
      rw [ej] at q2 ⊢
      exact ⟨fun _ => h z2 a1 a2 q2, fun c => absurd (nI_le (Nat.le_refl _) (by omega)) c⟩
    | succ n ih =>
      intro j z2 hj a1 a2 q2
      show pX8_magpiesIn_l2 _ post z2 _ (nI j)
      unfold pX8_magpiesIn_l2
      rw [q2.1, mgJ_n _ _ _ (by decide), bitN (by omega) (by omega), nI_clamp (by omega)]
      have go : ∀ v : Nat, (LM (mw z2 1 j (nI v)) (mgJ A k (j + 1))) → pX8_magpiesIn_b34 (pX8_magpiesIn_L2 post (n + 1)) post z2 (nI k) (nI j) (nI j) (nI v) := by
        intro v hv
        unfold pX8_magpiesIn_b34
        rw [nI_clamp (by omega)]
        refine ⟨vp_in_nI (by omega) (by decide), fun z3 e3 x hx => ?_⟩
        rw [hx, nI_1]
        exact ih (j + 1) z3 (by omega) (fun c hc => by rw [e3, mw_n _ _ _ hc]; exact a1 c hc) (fun q hq => by rw [e3, mw_k _ _ (by omega)]; exact a2 q hq) (by rw [e3]; exact hv)
      refine ⟨fun c => absurd c (nI_ge (by omega) (by omega)), fun _ => ⟨fun c => ⟨vp_in_nI (by omega) (by decide), ?_⟩, fun c => ?_⟩⟩
      · have c' : ¬ k / 2 ^ j % 2 = 1 := fun w => c (by rw [w]; rfl)
        have vj := q2.2.2.2.2.1 j (by omega)
        rw [vj]
        refine go _ ?_
        rw [mgJ_t _ c']
        have := q2.o (b := j) (mgJ A k j 1 j) (by omega)
        have e : Au (mgJ A k j) 1 j (mgJ A k j 1 j) = mgJ A k j := by
          funext a b
          rw [Au_g]
          by_cases w : a = 1 ∧ b = j
          · rw [if_pos w, w.1, w.2]
          · rw [if_neg w]
        rw [e] at this
        exact this
      · have c' : k / 2 ^ j % 2 = 1 := (m2n _).resolve_left (fun w => by rw [w] at c; exact absurd c (by decide))
        refine go 1 ?_
        rw [mgJ_s _ c']
        exact q2.o 1 (by omega)
  exact ⟨A 0 0 + 1, key (A 0 0) 0 z (by omega) (fun _ _ => rfl) (fun _ _ => rfl) (by rw [mgJ_0]; exact hL)⟩
/-- fewer blocks than the best so far -/
def smP (k : Nat) (b : Int32) : Prop := b = -4 ∨ pcN k < pcN b.toNatClampNeg
def bOK (b : Int32) : Prop := b = -4 ∨ ∃ j, j < 256 ∧ b = nI j
theorem pcN_le : ∀ k, k < 256 → pcN k ≤ 8 := by decide +kernel
theorem sX_smaller {z : MX} {k : Nat} (hk : k < 256) {b : Int32} (hb : bOK b) (post : Int32 → MX → Prop) (h1 : smP k b → post 1 z) (h0 : ¬ smP k b → post 0 z) : pX6_isSmaller z (nI k) b post := by
  unfold pX6_isSmaller pX6_isSmaller_b17
  refine ⟨fun c => ⟨Or.inr rfl, h1 (Or.inl c)⟩, fun c => ?_⟩
  rcases hb with e | ⟨j, hj, rfl⟩
  · exact absurd e c
  · refine sX_bits hk _ (sX_bits hj _ ?_)
    have p1 := pcN_le k hk
    have p2 := pcN_le j hj
    refine ⟨fun d => ⟨Or.inl rfl, h0 (fun q => ?_)⟩, fun d => ⟨Or.inr rfl, h1 (Or.inr ?_)⟩⟩
    · rcases q with q | q
      · exact c q
      · rw [nI_clamp (by omega)] at q
        have := (nI_leI (by omega) (by omega)).mp d
        omega
    · rw [nI_clamp (by omega)]
      have : ¬ pcN j ≤ pcN k := fun q => d (nI_le q (by omega))
      omega
theorem sM_fewer {z : MX} {k : Nat} (hk : k < 256) {b : Int32} (hb : bOK b) (post : Int32 → MX → Prop) (h1 : smP k b → post 1 z) (h0 : ¬ smP k b → post 0 z) : pX8_isFewer z (nI k) b post := by
  unfold pX8_isFewer pX8_isFewer_b17
  refine ⟨fun c => ⟨Or.inr rfl, h1 (Or.inl c)⟩, fun c => ?_⟩
  rcases hb with e | ⟨j, hj, rfl⟩
  · exact absurd e c
  · refine sM_bits hk _ (sM_bits hj _ ?_)
    have p1 := pcN_le k hk
    have p2 := pcN_le j hj
    refine ⟨fun d => ⟨Or.inl rfl, h0 (fun q => ?_)⟩, fun d => ⟨Or.inr rfl, h1 (Or.inr ?_)⟩⟩
    · rcases q with q | q
      · exact c q
      · rw [nI_clamp (by omega)] at q
        have := (nI_leI (by omega) (by omega)).mp d
        omega
    · rw [nI_clamp (by omega)]
      have : ¬ pcN j ≤ pcN k := fun q => d (nI_le q (by omega))
      omega
noncomputable def fwG (ok : Nat → Prop) : Nat → Int32
  | 0 => -4
  | k + 1 => @ite _ (ok k ∧ smP k (fwG ok k)) (Classical.propDecidable _) (nI k) (fwG ok k)
theorem fwG_p {ok : Nat → Prop} {k : Nat} (h : ok k) (h2 : smP k (fwG ok k)) : fwG ok (k + 1) = nI k := by
  show @ite _ _ (Classical.propDecidable _) _ _ = _
  rw [if_pos ⟨h, h2⟩]
theorem fwG_n {ok : Nat → Prop} {k : Nat} (h : ¬ (ok k ∧ smP k (fwG ok k))) : fwG ok (k + 1) = fwG ok k := by
  show @ite _ _ (Classical.propDecidable _) _ _ = _
  rw [if_neg h]
theorem fwG_ok (ok : Nat → Prop) : ∀ k, k ≤ 256 → bOK (fwG ok k) := by
  intro k
  induction k with
  | zero => intro _; exact Or.inl rfl
  | succ k ih =>
    intro hk
    by_cases c : ok k ∧ smP k (fwG ok k)
    · rw [fwG_p c.1 c.2]; exact Or.inr ⟨k, by omega, rfl⟩
    · rw [fwG_n c]; exact ih (by omega)
theorem Au_Au (A : AL) (c k v w : Nat) : Au (Au A c k v) c k w = Au A c k w := by
  funext a b
  simp only [Au_g]
  by_cases h : a = c ∧ b = k
  · simp [h]
  · simp [h]
theorem Au_self (A : AL) (c k : Nat) : Au A c k (A c k) = A := by
  funext a b
  rw [Au_g]
  by_cases w : a = c ∧ b = k
  · rw [if_pos w, w.1, w.2]
  · rw [if_neg w]
theorem pow_le8 : ∀ n, n ≤ 8 → 2 ^ n ≤ 256 := by decide
/-- a guard set makes no bump -/
def okF (A : AL) (k : Nat) : Prop := aTr (Au A 0 3 k) 120 3 0 = -4
set_option maxHeartbeats 2000000 in
theorem sX_fewest {z : MX} {A : AL} (hL : LX 0 z A) (hA : AOK A) (post : Int32 → MX → Prop) (h : ∀ z1, NX z z1 → post (fwG (okF A) (2 ^ A 0 0)) z1) : pX6_fewestGuards 0 z post := by
  have hB := hA.2.1
  have hP := pow_le8 _ hB
  unfold pX6_fewestGuards
  refine sX_copy (by decide) hL hA.2.2.2.1 hA.2.2.1 _ (fun z1 f1 q1 => ?_)
  have key : ∀ n k z2 g, k + n = 2 ^ A 0 0 → NX z z2 → LX 1 z2 (Au A 0 3 g) → pX6_fewestGuards_L13 0 post (n + 1) z2 (fwG (okF A) k) (nI k) := by
    intro n
    induction n with
    | zero =>
      intro k z2 g hk n2 q2
      show pX6_fewestGuards_l13 0 _ post z2 _ (nI k)
      unfold pX6_fewestGuards_l13
      rw [(hL.N n2 (Or.inl rfl)).1, shlN (by omega)]
      have ek : k = 2 ^ A 0 0 := by omega
      rw [ek]
      exact ⟨fun _ => h z2 n2, fun c => absurd (nI_le (Nat.le_refl _) (by omega)) c⟩
    | succ n ih =>
      intro k z2 g hk n2 q2
      show pX6_fewestGuards_l13 0 _ post z2 _ (nI k)
      unfold pX6_fewestGuards_l13
      rw [(hL.N n2 (Or.inl rfl)).1, shlN (by omega)]
      have go : ∀ z3 g v, v = fwG (okF A) (k + 1) → NX z z3 → LX 1 z3 (Au A 0 3 g) → pX6_fewestGuards_b69 0 (pX6_fewestGuards_L13 0 post (n + 1)) post z3 v (nI k) := by
        intro z3 g v hv n3 q3 x hx
        rw [hx, nI_1, hv]
        exact ih (k + 1) z3 g (by omega) n3 q3
      refine ⟨fun c => absurd c (nI_ge (by omega) (by omega)), fun _ => sX_smaller (by omega) (fwG_ok _ k (by omega)) _ (fun s => ⟨fun q => absurd q (by decide), fun _ z3 e3 => ?_⟩) (fun s => ⟨fun _ => go z2 g _ (fwG_n (fun w => s w.2)).symm n2 q2, fun q => absurd rfl q⟩)⟩
      have q3 : LX 1 z3 (Au A 0 3 k) := by
        rw [e3]
        have := q2.g k
        rw [Au_Au] at this
        exact this
      have n3 : NX z z3 := by rw [e3]; exact n2.mw _ _ (by omega)
      refine sX_play (by decide) q3 (hA.g (g := k) (by omega)).R _ (fun z4 f4 r4 _ _ => ?_)
      have n4 := n3.tr (NX.of f4 (by omega))
      have q4 := q3.fr f4 (by omega)
      rw [r4.2.2.2.1]
      exact ⟨fun c => go z4 k _ (fwG_n (fun w => c w.1)).symm n4 q4, fun c => go z4 k _ (fwG_p c s).symm n4 q4⟩
  exact ⟨2 ^ A 0 0 + 1, key (2 ^ A 0 0) 0 z1 (A 0 3) (by omega) (NX.of f1 (by omega)) (by rw [Au_self]; exact q1)⟩
/-- what may change of the reference but places P of its page -/
def NMx (P : Nat → Prop) (z z1 : MX) : Prop := (∀ c, c = 2 ∨ c = 3 ∨ 6 ≤ c ∧ c ≤ 8 ∨ c = 14 ∨ 16 ≤ c ∧ c ≤ 19 → z1.1 c = z.1 c) ∧ (∀ k, k = 1 ∨ k = 2 ∨ k = 4 ∨ k = 15 ∨ k = 16 ∨ k = 37 ∨ k = 44 → z1.1 0 k = z.1 0 k) ∧ (∀ k, k < 75 → ¬ P k → z1.1 1 k = z.1 1 k)
theorem NMx.rf (P : Nat → Prop) (z : MX) : NMx P z z := ⟨fun _ _ => rfl, fun _ _ => rfl, fun _ _ _ => rfl⟩
theorem NMx.run {P : Nat → Prop} {z z1 z2 : MX} (h : NMx P z z1) (hf : frM z1 z2) : NMx P z z2 := by
  have h2 := NM.of hf
  exact ⟨fun c hc => (h2.1 c hc).trans (h.1 c hc), fun k hk => (h2.2.1 k hk).trans (h.2.1 k hk), fun k hk hp => (h2.2.2 k hk).trans (h.2.2 k hk hp)⟩
theorem NMx.put {P : Nat → Prop} {z z1 : MX} (h : NMx P z z1) {k : Nat} (v : Int32) (hk : P k ∨ 75 ≤ k) : NMx P z (mw z1 1 k v) := ⟨fun c hc => by rw [mw_n _ _ _ (by omega)]; exact h.1 c hc, fun q hq => by rw [mw_n _ _ _ (by decide)]; exact h.2.1 q hq, fun q hq hp => by
  rw [mw_k _ _ (fun e => by rw [e] at hp hq; exact hk.elim hp (fun w => absurd hq (by omega)))]
  exact h.2.2 q hq hp⟩
theorem NMx.back {z z1 : MX} {p : Nat} (h : NMx (fun k => k = p) z z1) : NM z (mw z1 1 p (z.1 1 p)) := ⟨fun c hc => by rw [mw_n _ _ _ (by omega)]; exact h.1 c hc, fun q hq => by rw [mw_n _ _ _ (by decide)]; exact h.2.1 q hq, fun q hq => by
  rw [mw_g]
  by_cases e : q = p
  · rw [if_pos ⟨rfl, e⟩, e]
  · rw [if_neg (fun w => e w.2)]; exact h.2.2 q hq e⟩
set_option maxHeartbeats 2000000 in
theorem q_fewest {zx zm : MX} (h : Rel zx zm) (x : Int32) : pX7_fewest zx x (fun r zx1 => pX8_fewest zm x (fun r2 zm1 => r = r2 ∧ Rel zx1 zm1)) := by
  have h0 := h
  obtain ⟨A, a, b, c, d, e, f, g, i, j, k⟩ := h
  have hB := a.2.1
  have hP := pow_le8 _ hB
  unfold pX7_fewest pX8_fewest
  rcases ix x (n := 2) (by decide) with hx | ⟨y, hy, rfl⟩
  · exact c01N hx ⟨fun q => absurd rfl q, fun _ => cInN zm 1 (by decide) (by decide) hx ⟨fun q => absurd rfl q, fun _ => ⟨rfl, h0⟩⟩⟩
  · refine c01Y hy ⟨fun _ => sX_fewest b a _ (fun z1 n1 => ?_), fun q => absurd q (by decide)⟩
    have hb := fwG_ok (okF A) (2 ^ A 0 0) hP
    -- the reference's loop
    have ref : ∀ v : Int32, v = (if fwG (okF A) (2 ^ A 0 0) = -4 then -4 else if y = 0 then nI (pcN (fwG (okF A) (2 ^ A 0 0)).toNatClampNeg) else fwG (okF A) (2 ^ A 0 0)) → pX8_in zm (Int32.toInt64 (nI y)) (0 : Int64) (1 : Int64) (fun (r4 : Int32) (z4 : MX) => ((¬ r4 = 0 → vp_in (8 : Int32) 125 ∧ ∀ x2_19 : Int32, x2_19 = z4.1 1 (Int32.toNatClampNeg (8 : Int32)) → ∃ n, pX8_fewest_L26 (fun r2 zm1 => v = r2 ∧ Rel z1 zm1) n z4 (nI y) x2_19 (-4 : Int32) (0 : Int32)) ∧ (r4 = 0 → v = (-1 : Int32) ∧ Rel z1 z4))) := by
      intro v hv
      refine cInY zm 1 (by decide) (by decide) (by omega) ⟨fun _ => ⟨vp_in_nI (n := 8) (by omega) (by decide), fun had hh => ?_⟩, fun q => absurd q (by decide)⟩
      rw [show Int32.toNatClampNeg (8 : Int32) = 8 from rfl] at hh
      have key : ∀ n k y2 g, k + n = 2 ^ A 0 0 → NMx (fun k => k = 8) zm y2 → LM y2 (Au A 0 3 g) → pX8_fewest_L26 (fun r2 zm1 => v = r2 ∧ Rel z1 zm1) (n + 1) y2 (nI y) had (fwG (okF A) k) (nI k) := by
        intro n
        induction n with
        | zero =>
          intro k y2 g hk n2 q2
          show pX8_fewest_l26 _ _ y2 _ _ _ (nI k)
          unfold pX8_fewest_l26
          rw [q2.1, show Au A 0 3 g 0 0 = A 0 0 from rfl, shlN (by omega)]
          have ek : k = 2 ^ A 0 0 := by omega
          rw [ek, show Int32.toNatClampNeg (8 : Int32) = 8 from rfl]
          refine ⟨fun _ => ⟨vp_in_nI (n := 8) (by omega) (by decide), fun y3 e3 => ?_⟩, fun c => absurd (nI_le (Nat.le_refl _) (by omega)) c⟩
          have n3 : NM zm y3 := by rw [e3, hh]; exact n2.back
          have hr := h0.N n1 n3
          unfold pX8_fewest_b101
          refine ⟨fun w => ⟨by rw [hv, if_pos w, w], hr⟩, fun w => ⟨fun w2 => ?_, fun w2 => ⟨?_, hr⟩⟩⟩
          · have y0 : y = 0 := by
              have : y ≠ 1 := fun q => w2 (by rw [q]; rfl)
              omega
            rcases hb with q | ⟨jj, hj, q⟩
            · exact absurd q w
            · rw [if_neg w, if_pos y0, q, nI_clamp (by omega)] at hv
              rw [q]
              exact sM_bits hj _ ⟨hv, hr⟩
          · have y1 : y = 1 := (nI_eq (b := 1) (by omega) (by decide)).mp w2
            rw [hv, if_neg w, if_neg (by omega)]
        | succ n ih =>
          intro k y2 g hk n2 q2
          show pX8_fewest_l26 _ _ y2 _ _ _ (nI k)
          unfold pX8_fewest_l26
          rw [q2.1, show Au A 0 3 g 0 0 = A 0 0 from rfl, shlN (by omega)]
          have go : ∀ y3 g w, w = fwG (okF A) (k + 1) → NMx (fun k => k = 8) zm y3 → LM y3 (Au A 0 3 g) → pX8_fewest_b76 (pX8_fewest_L26 (fun r2 zm1 => v = r2 ∧ Rel z1 zm1) (n + 1)) (fun r2 zm1 => v = r2 ∧ Rel z1 zm1) y3 (nI y) had w (nI k) := by
            intro y3 g w hw n3 q3 x hx
            rw [hx, nI_1, hw]
            exact ih (k + 1) y3 g (by omega) n3 q3
          refine ⟨fun c => absurd c (nI_ge (by omega) (by omega)), fun _ => sM_fewer (by omega) (fwG_ok _ k (by omega)) _ (fun s => ⟨fun q => absurd q (by decide), fun _ => ⟨vp_in_nI (n := 8) (by omega) (by decide), fun y3 e3 => ?_⟩⟩) (fun s => ⟨fun _ => go y2 g _ (fwG_n (fun w => s w.2)).symm n2 q2, fun q => absurd rfl q⟩)⟩
          rw [show Int32.toNatClampNeg (8 : Int32) = 8 from rfl] at e3
          have q3 : LM y3 (Au A 0 3 k) := by
            rw [e3]
            have := q2.g k
            rw [Au_Au] at this
            exact this
          have n3 : NMx (fun k => k = 8) zm y3 := by rw [e3]; exact n2.put _ (Or.inl rfl)
          refine sM_run q3 (a.g (g := k) (by omega)).R _ (fun y4 f4 r4 _ => ?_)
          have n4 := n3.run f4
          have q4 := q3.fr f4
          rw [r4.2.2.2.1]
          exact ⟨fun c => go y4 k _ (fwG_n (fun w => c w.1)).symm n4 q4, fun c => go y4 k _ (fwG_p c s).symm n4 q4⟩
      exact ⟨2 ^ A 0 0 + 1, key (2 ^ A 0 0) 0 zm (A 0 3) (by omega) (NMx.rf _ zm) (by rw [Au_self]; exact c)⟩
    unfold pX7_sizeOrSet
    refine ⟨fun w => ⟨fun w2 => ref _ ?_, fun w2 => ?_⟩, fun w => ref _ (by rw [if_pos w])⟩
    · rw [if_neg w, if_neg (fun q => w2 (by rw [q]; rfl))]
    · have y0 : y = 0 := (nI_eq (b := 0) (by omega) (by decide)).mp w2
      rcases hb with q | ⟨jj, hj, q⟩
      · exact absurd q w
      · have hr := ref (nI (pcN jj)) (by rw [if_neg w, if_pos y0, q, nI_clamp (by omega)])
        rw [q]
        exact sX_bits hj _ hr
