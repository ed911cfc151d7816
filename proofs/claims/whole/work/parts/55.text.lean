/-! text -/
def lbN (A : AL) : Nat → Nat
  | 0 => 0
  | j + 1 => lbN A j ||| 2 ^ A 2 j
theorem lbN_b (A : AL) (b : Nat) : ∀ k, lbN A k / 2 ^ b % 2 = 1 ↔ ∃ j, j < k ∧ A 2 j = b := by
  intro k
  induction k with
  | zero => show 0 / 2 ^ b % 2 = 1 ↔ _; rw [Nat.zero_div]; exact ⟨fun w => absurd w (by decide), fun ⟨j, w, _⟩ => absurd w (by omega)⟩
  | succ k ih =>
    show (lbN A k ||| 2 ^ A 2 k) / 2 ^ b % 2 = 1 ↔ _
    rw [orb, p2b, ih]
    constructor
    · rintro (⟨j, j1, j2⟩ | e)
      · exact ⟨j, by omega, j2⟩
      · exact ⟨k, by omega, e.symm⟩
    · rintro ⟨j, j1, j2⟩
      by_cases e : j = k
      · exact Or.inr (by rw [← j2, e])
      · exact Or.inl ⟨j, by omega, j2⟩
theorem lbN_lt {A : AL} {k : Nat} (h : ∀ j, j < k → A 2 j < 8) : lbN A k < 256 := by
  induction k with
  | zero => show 0 < 256; decide
  | succ k ih => exact or_lt (ih (fun j hj => h j (by omega))) (Nat.pow_lt_pow_right (by decide) (h k (by omega)) : 2 ^ A 2 k < 2 ^ 8)
theorem lb_s (post : Int32 → MX → Prop) (n : Nat) : pX0_lockBits_L4 1 post (n + 1) = pX0_lockBits_l4 1 (pX0_lockBits_L4 1 post n) post := rfl
theorem sX_lockBits {z : MX} {A : AL} (hL : LX 1 z A) (hl : A 0 2 ≤ 4) (hE : ∀ j, j < 2 * A 0 2 → A 2 j < 8) (post : Int32 → MX → Prop) (h : post (nI (lbN A (2 * A 0 2))) z) : pX0_lockBits 1 z post := by
  have key : ∀ k j, j + k = 2 * A 0 2 → pX0_lockBits_L4 1 post (k + 1) z (nI (lbN A j)) (nI j) := by
    intro k
    induction k with
    | zero =>
      intro j hj
      rw [lb_s]
      unfold pX0_lockBits_l4
      have ej : j = 2 * A 0 2 := by omega
      rw [hL.2.2.1, two_m, ej]
      exact ⟨fun _ => h, fun w => absurd (nI_le (Nat.le_refl _) (by omega)) w⟩
    | succ k ih =>
      intro j hj
      rw [lb_s]
      unfold pX0_lockBits_l4
      have := hE j (by omega)
      rw [hL.2.2.1, two_m, nI_clamp (by omega), hL.2.2.2.2.2.1 j (by omega), shlN (by omega), fa_or]
      refine ⟨fun w => absurd w (nI_ge (by omega) (by omega)), fun _ => ⟨vp_in_nI (by omega) (by decide), fun u hu v hv => ?_⟩⟩
      rw [hu, hv, nI_1]
      exact ih (j + 1) (by omega)
  exact ⟨2 * A 0 2 + 1, key (2 * A 0 2) 0 (by omega)⟩
theorem high_bit : ∀ N, N < 256 → ∀ B, B < 9 → N / 2 ^ B ≠ 0 → ∃ b, b < 8 ∧ B ≤ b ∧ N / 2 ^ b % 2 = 1 := by decide +kernel
theorem told_eq {A : AL} {hb : Nat} (hA : DOK A hb) : ((obN (A 1) 8 ||| A 0 3) ||| lbN A (2 * A 0 2)) / 2 ^ A 0 0 = 0 ↔ hb ≤ A 0 0 := by
  have hA0 := hA
  obtain ⟨a1, a2, a3, a4, a5, a6, a7, a8, a9, a10, a11⟩ := hA
  have hN : ((obN (A 1) 8 ||| A 0 3) ||| lbN A (2 * A 0 2)) < 256 := or_lt (or_lt (obN_lt _ 8) a5) (lbN_lt a7)
  have bit : ∀ b, b < 8 → (((obN (A 1) 8 ||| A 0 3) ||| lbN A (2 * A 0 2)) / 2 ^ b % 2 = 1 ↔ tdP A b) := by
    intro b hb
    rw [orb, orb, ob_bit, lbN_b]
    unfold tdP
    constructor
    · rintro ((⟨_, w⟩ | w) | w)
      · exact Or.inl w
      · exact Or.inr (Or.inl w)
      · exact Or.inr (Or.inr w)
    · rintro (w | w | w)
      · exact Or.inl (Or.inl ⟨hb, w⟩)
      · exact Or.inl (Or.inr w)
      · exact Or.inr w
  constructor
  · intro h0
    refine Classical.byContradiction (fun w => ?_)
    have td : tdP A (hb - 1) := a11.resolve_left (by omega)
    have b1 := (bit (hb - 1) (by omega)).mpr td
    have lt : ((obN (A 1) 8 ||| A 0 3) ||| lbN A (2 * A 0 2)) < 2 ^ A 0 0 := (Nat.div_eq_zero_iff_lt (Nat.two_pow_pos _)).mp h0
    have le : 2 ^ A 0 0 ≤ 2 ^ (hb - 1) := Nat.pow_le_pow_right (by decide) (by omega)
    rw [(Nat.div_eq_zero_iff_lt (Nat.two_pow_pos _)).mpr (Nat.lt_of_lt_of_le lt le)] at b1
    exact absurd b1 (by decide)
  · intro h0
    refine Classical.byContradiction (fun w => ?_)
    obtain ⟨b, b1, b2, b3⟩ := high_bit _ hN (A 0 0) (by omega) w
    have := a10 b b1 ((bit b b1).mp b3)
    omega
theorem sX_check {zx z : MX} {A : AL} {hb pl bt p : Nat} (hA : DOK A hb) (hR : RpX zx z A bt p) (h6 : z.1 24 6 = nI pl) (post : MX → Prop) (c6 : ¬ hb ≤ A 0 0 → ∀ z1, FtX zx z1 6 pl → post z1) (c7 : hb ≤ A 0 0 → ¬ alP A (obN (A 1) 8) (A 0 2) → ∀ z1, FtX zx z1 7 pl → post z1) (c0 : hb ≤ A 0 0 → alP A (obN (A 1) 8) (A 0 2) → post z) : pX5_checkWhole 1 z post := by
  have hA0 := hA
  obtain ⟨a1, a2, a3, a4, a5, a6, a7, a8, a9, a10, a11⟩ := hA
  have hL := hR.2.1
  have hO : obN (A 1) 8 < 256 := obN_lt _ 8
  unfold pX5_checkWhole
  refine sX_omenBits hL.2.2.2.2.1 a6 _ (sX_lockBits hL a4 a7 _ (fun x hx => ?_))
  rw [hL.2.1, fa_or, fa_or] at hx
  have sh : x >>> (z.1 (4 * 1) 0 &&& 31) = nI (((obN (A 1) 8 ||| A 0 3) ||| lbN A (2 * A 0 2)) / 2 ^ A 0 0) := by
    rw [hx, hL.1]
    exact pk_shrN (by have := or_lt (or_lt hO a5) (lbN_lt a7); omega) _ _ (sh31 _ (by omega))
  have lt : ((obN (A 1) 8 ||| A 0 3) ||| lbN A (2 * A 0 2)) / 2 ^ A 0 0 < 256 := Nat.lt_of_le_of_lt (Nat.div_le_self _ _) (or_lt (or_lt hO a5) (lbN_lt a7))
  rw [sh, show (0 : Int32) = nI 0 from rfl, nI_eq (by omega) (by decide), told_eq hA0]
  have bl : ∀ c : Nat, (∀ z1, FtX zx z1 c pl → post z1) → pX5_blame z (nI c) (fun _ z27 => post z27) := fun c hp => sX_blame _ _ (fun z1 f1 b2 b3 bo => hp z1 ⟨hR.1.tr (NX_24 f1 (bo 1 (by decide) (by decide))), b2, by rw [b3]; exact h6⟩)
  refine ⟨fun w => sX_omenBits hL.2.2.2.2.1 a6 _ (sX_allows hL.2.2.1 hL.2.2.2.2.2.1 a4 a7 hO _ (fun al => ⟨fun _ => c0 w al, fun q => absurd q (by decide)⟩) (fun al => ⟨fun q => absurd rfl q, fun _ => bl 7 (c7 w al)⟩)), fun w => bl 6 (c6 w)⟩
/-! the reference's ends -/
theorem tx_s67 (post : Int32 → MX → Prop) (n : Nat) : pX8_text_L67 post (n + 1) = pX8_text_l67 (pX8_text_L67 post n) post := rfl
theorem tx_s44 (post : Int32 → MX → Prop) (n : Nat) : pX8_text_L44 post (n + 1) = pX8_text_l44 (pX8_text_L44 post n) post := rfl
theorem tx_s165 (post : Int32 → MX → Prop) (n : Nat) : pX8_text_L165 post (n + 1) = pX8_text_l165 (pX8_text_L165 post n) post := rfl
theorem ab_s (post : Int32 → MX → Prop) (n : Nat) : pX8_areBothHung_L4 post (n + 1) = pX8_areBothHung_l4 (pX8_areBothHung_L4 post n) post := rfl
theorem sM_b135B {zm y : MX} {c pl : Nat} (hc : 0 < c) (hc2 : c < 10) (h : FtM zm y c pl) (x : Int32) (Q : Int32 → MX → Prop) (hQ : ∀ y8, NM zm y8 → Q (-10 - nI pl) (mw (mw y8 0 15 0) 0 16 (nI c))) : pX8_text_b135 Q y x := by
  unfold pX8_text_b135
  intro y1 e1 y2 e2
  have g17 : y1.1 0 17 = nI c := by rw [e1, mw_k _ _ (by decide)]; exact h.2.1
  rw [g17] at e2
  have k17 : y2.1 0 17 = nI c := by rw [e2, mw_k _ _ (by decide)]; exact g17
  have k18 : y2.1 0 18 = nI pl := by rw [e2, mw_k _ _ (by decide), e1, mw_k _ _ (by decide)]; exact h.2.2
  rw [k17, k18]
  refine ⟨fun w => absurd w (nI_nle hc (by omega)), fun _ => ?_⟩
  rw [e2, e1]
  exact hQ y h.1
theorem sM_b115B {zm y : MX} {c pl : Nat} (hc : 0 < c) (hc2 : c < 10) (h : FtM zm y c pl) (x : Int32) (Q : Int32 → MX → Prop) (hQ : ∀ y8, NM zm y8 → Q (-10 - nI pl) (mw (mw y8 0 15 0) 0 16 (nI c))) : pX8_text_b115 Q y x := ⟨fun _ => sM_b135B hc hc2 h x Q hQ, fun w => absurd w (h.z hc hc2)⟩
theorem sM_endB {zm y : MX} {c pl : Nat} (hc : 0 < c) (hc2 : c < 10) (h : FtM zm y c pl) (x : Int32) (Q : Int32 → MX → Prop) (hQ : ∀ y8, NM zm y8 → Q (-10 - nI pl) (mw (mw y8 0 15 0) 0 16 (nI c))) : ∃ q, pX8_text_L67 Q q y x := by
  refine ⟨1, ?_⟩
  rw [tx_s67]
  exact ⟨fun _ => ⟨fun _ => sM_b115B hc hc2 h x Q hQ, fun w => absurd w (h.z hc hc2)⟩, fun w => absurd w (h.z hc hc2)⟩
set_option maxHeartbeats 1000000 in
theorem sM_both {zm y : MX} {A : AL} {bt hb : Nat} (hA : DOK A hb) (hD : DfM zm y A bt hb) (post : Int32 → MX → Prop) (h1 : ¬ alP A (obN (A 1) 8) (A 0 2) → post 1 y) (h0 : alP A (obN (A 1) 8) (A 0 2) → post 0 y) : pX8_areBothHung y post := by
  obtain ⟨a1, a2, a3, a4, a5, a6, a7, a8, a9, a10, a11⟩ := hA
  obtain ⟨d0, d1, d2, d3, d4, d5, d6, d7, d8, d9, d10⟩ := hD
  have bitA : ∀ j, j < 2 * A 0 2 → (obN (A 1) 8 / 2 ^ A 2 j % 2 = 1 ↔ A 1 (A 2 j) ≠ 0) := fun j hj => by
    rw [ob_bit]
    exact ⟨fun w => w.2, fun w => ⟨a7 j hj, w⟩⟩
  have key : ∀ k l (fl : Nat), l + k = A 0 2 → (fl = 0 ∧ alP A (obN (A 1) 8) l ∨ fl = 1 ∧ ¬ alP A (obN (A 1) 8) l) → pX8_areBothHung_L4 post (k + 1) y (nI fl) (nI l) := by
    intro k
    induction k with
    | zero =>
      intro l fl hl hf
      rw [ab_s]
      unfold pX8_areBothHung_l4
      have el : l = A 0 2 := by omega
      rw [d3, el]
      rw [el] at hf
      refine ⟨fun _ => ?_, fun w => absurd (nI_le (Nat.le_refl _) (by omega)) w⟩
      rcases hf with ⟨f1, f2⟩ | ⟨f1, f2⟩
      · rw [f1]; exact ⟨Or.inl rfl, h0 f2⟩
      · rw [f1]; exact ⟨Or.inr rfl, h1 f2⟩
    | succ k ih =>
      intro l fl hl hf
      rw [ab_s]
      unfold pX8_areBothHung_l4 pX8_areBothHung_b50 pX8_areBothHung_b54 pX8_areBothHung_b55
      have s0 := a7 (2 * l) (by omega)
      have s1 := a7 (2 * l + 1) (by omega)
      have m0 := a6 _ s0
      have m1 := a6 _ s1
      rw [d3, two_m, nI_1 (2 * l), nI_clamp (n := 2 * l) (by omega), nI_clamp (n := 2 * l + 1) (by omega), d9 _ (by omega), d9 _ (by omega), nI_clamp (n := A 2 (2 * l)) (by omega), nI_clamp (n := A 2 (2 * l + 1)) (by omega), d7 _ s0, d7 _ s1, show (0 : Int32) = nI 0 from rfl, nI_leI (a := A 1 (A 2 (2 * l))) (by omega) (by decide), nI_leI (a := A 1 (A 2 (2 * l + 1))) (by omega) (by decide), nI_eq (a := fl) (by omega) (by decide)]
      have st : ∀ g : Prop, (alP A (obN (A 1) 8) (l + 1) ↔ alP A (obN (A 1) 8) l ∧ ¬ (A 1 (A 2 (2 * l)) ≠ 0 ∧ A 1 (A 2 (2 * l + 1)) ≠ 0)) := by
        intro _
        rw [← bitA _ (by omega), ← bitA _ (by omega)]
        constructor
        · intro w; exact ⟨fun j hj => w j (by omega), w l (by omega)⟩
        · intro w j hj
          by_cases e : j = l
          · rw [e]; exact w.2
          · exact w.1 j (by omega)
      have st := st True
      refine ⟨fun w => absurd w (nI_ge (by omega) (by omega)), fun _ => ⟨fun w x hx => ?_, fun w => ⟨vp_in_nI (by omega) (by decide), vp_in_nI (by omega) (by decide), fun c x hx => ?_, fun c => ⟨vp_in_nI (by omega) (by decide), vp_in_nI (by omega) (by decide), fun c2 x hx => ?_, fun c2 x hx => ?_⟩⟩⟩⟩
      · rw [hx, nI_1]
        refine ih (l + 1) 1 (by omega) (Or.inr ⟨rfl, fun q => ?_⟩)
        rcases hf with ⟨f1, f2⟩ | ⟨f1, f2⟩
        · exact w f1
        · exact f2 (st.mp q).1
      · rw [hx, nI_1]
        have f2 : alP A (obN (A 1) 8) l := by
          rcases hf with ⟨f1, f2⟩ | ⟨f1, f2⟩
          · exact f2
          · omega
        exact ih (l + 1) 0 (by omega) (Or.inl ⟨rfl, st.mpr ⟨f2, fun q => q.1 (by omega)⟩⟩)
      · rw [hx, nI_1]
        have f2 : alP A (obN (A 1) 8) l := by
          rcases hf with ⟨f1, f2⟩ | ⟨f1, f2⟩
          · exact f2
          · omega
        exact ih (l + 1) 0 (by omega) (Or.inl ⟨rfl, st.mpr ⟨f2, fun q => q.2 (by omega)⟩⟩)
      · rw [hx, nI_1]
        exact ih (l + 1) 1 (by omega) (Or.inr ⟨rfl, fun q => (st.mp q).2 ⟨by omega, by omega⟩⟩)
  exact ⟨A 0 2 + 1, key (A 0 2) 0 0 (by omega) (Or.inl ⟨rfl, fun j hj => absurd hj (by omega)⟩)⟩
/-! the draft becomes the line -/
set_option maxHeartbeats 2000000 in
theorem sM_take {zm y : MX} {A : AL} {bt hb : Nat} (hA : DOK A hb) (hD : DfM zm y A bt hb) (h17 : y.1 0 17 = 0) (hw : ∀ j, j < 20 → zm.1 3 j = xWait j) (x : Int32) (Q : Int32 → MX → Prop) (hQ : ∀ y8, LM y8 A → (∀ c, c = 6 ∨ c = 7 ∨ c = 8 ∨ 17 ≤ c ∧ c ≤ 19 → y8.1 c = zm.1 c) → y8.1 0 44 = zm.1 0 44 → y8.1 0 15 = 0 → y8.1 0 16 = 0 → y8.1 0 37 = 0 → y8.1 16 0 = 0 → y8.1 16 1 = 0 → Q x y8) : pX8_text_b135 Q y x := by
  obtain ⟨a1, a2, a3, a4, a5, a6, a7, a8, a9, a10, a11⟩ := hA
  obtain ⟨d0, d1, d2, d3, d4, d5, d6, d7, d8, d9, d10⟩ := hD
  unfold pX8_text_b135
  intro y1 e1 y2 e2
  have g17 : y1.1 0 17 = 0 := by rw [e1, mw_k _ _ (by decide)]; exact h17
  rw [g17] at e2
  have k17 : y2.1 0 17 = 0 := by rw [e2, mw_k _ _ (by decide)]; exact g17
  rw [k17]
  refine ⟨fun _ => ?_, fun w => absurd (by decide) w⟩
  have o0 : ∀ k, k ≠ 15 → k ≠ 16 → y2.1 0 k = y.1 0 k := fun k h1 h2 => by rw [e2, mw_k _ _ h2, e1, mw_k _ _ h1]
  have oc : ∀ c, c ≠ 0 → y2.1 c = y.1 c := fun c hc => by rw [e2, mw_n _ _ _ hc, e1, mw_n _ _ _ hc]
  have key : ∀ k m y3, m + k = 25 → y3.1 0 = y2.1 0 → (∀ c, c ≠ 0 → c ≠ 1 → c ≠ 2 → y3.1 c = y.1 c) → (∀ j, j < m → y3.1 1 j = y.1 4 j) → (∀ j, j < 8 → j < m → y3.1 2 j = y.1 5 j) → pX8_text_L165 Q (k + 1) y3 x (nI m) := by
    intro k
    induction k with
    | zero =>
      intro m y3 hm c0 cc c1 c2
      rw [tx_s165]
      unfold pX8_text_l165
      have em : m = 25 := by omega
      rw [em] at c1 c2 ⊢
      refine ⟨fun _ y4 e4 y5 e5 y6 e6 y7 e7 => ⟨vp_in_nI (n := 0) (by decide) (by decide), Or.inl rfl, fun y8 e8 => ⟨vp_in_nI (n := 1) (by decide) (by decide), Or.inl rfl, fun y9 e9 => ?_⟩⟩, fun w => absurd (by decide) w⟩
      rw [show Int32.toNatClampNeg (0 : Int32) = 0 from rfl] at e8
      rw [show Int32.toNatClampNeg (1 : Int32) = 1 from rfl] at e9
      have x8 : y3.1 0 8 = nI (A 0 0) := by rw [c0, o0 8 (by decide) (by decide)]; exact d1
      have x9 : y4.1 0 9 = nI (A 0 1) := by rw [e4, mw_k _ _ (by decide), c0, o0 9 (by decide) (by decide)]; exact d2
      have x10 : y5.1 0 10 = nI (A 0 2) := by rw [e5, mw_k _ _ (by decide), e4, mw_k _ _ (by decide), c0, o0 10 (by decide) (by decide)]; exact d3
      rw [x8] at e4
      rw [x9] at e5
      rw [x10] at e6
      have r0 : ∀ k, y9.1 0 k = if k = 37 then 0 else if k = 4 then nI (A 0 2) else if k = 2 then nI (A 0 1) else if k = 1 then nI (A 0 0) else y2.1 0 k := by
        intro k
        rw [e9, mw_n _ _ _ (by decide), e8, mw_n _ _ _ (by decide), e7, mw_g, e6, mw_g, e5, mw_g, e4, mw_g, c0]
        simp
      have rc : ∀ c, c ≠ 0 → c ≠ 16 → y9.1 c = y3.1 c := fun c h1 h2 => by rw [e9, mw_n _ _ _ h2, e8, mw_n _ _ _ h2, e7, mw_n _ _ _ h1, e6, mw_n _ _ _ h1, e5, mw_n _ _ _ h1, e4, mw_n _ _ _ h1]
      have rz : ∀ c, c = 6 ∨ c = 7 ∨ c = 8 ∨ 17 ≤ c ∧ c ≤ 19 ∨ c = 3 → y9.1 c = zm.1 c := fun c hc => by rw [rc c (by omega) (by omega), cc c (by omega) (by omega) (by omega)]; exact d0.1 c (by omega)
      refine hQ y9 ⟨?_, ?_, ?_, ?_, ?_, ?_, ?_, ?_⟩ (fun c hc => rz c (by omega)) ?_ ?_ ?_ ?_ ?_ ?_
      · rw [r0]; simp
      · rw [r0]; simp
      · rw [r0]; simp
      · rw [rc 1 (by decide) (by decide), c1 8 (by decide)]; exact d8
      · intro b hb
        rw [rc 1 (by decide) (by decide), c1 b (by omega)]; exact d7 b hb
      · intro j hj
        rw [rc 2 (by decide) (by decide), c2 j (by omega) (by omega)]; exact d9 j hj
      · intro t w ht hw
        rw [rc 1 (by decide) (by decide), c1 _ (by omega)]; exact d10 t w ht hw
      · rw [rz 3 (by omega)]; exact hw
      · rw [r0]; simp
        rw [o0 44 (by decide) (by decide)]; exact d0.2.1 44 (by omega)
      · rw [r0]; simp
        rw [e2, mw_k _ _ (by decide), e1, mw_s]
      · rw [r0]; simp
        rw [e2, mw_s]
      · rw [r0]; simp
      · rw [e9, mw_k _ _ (by decide), e8, mw_s]
      · rw [e9, mw_s]
    | succ k ih =>
      intro m y3 hm c0 cc c1 c2
      rw [tx_s165]
      unfold pX8_text_l165
      rw [show (8 : Int32) = nI 8 from rfl, pk_rem (by omega) (by decide) (by decide), nI_clamp (n := m) (by omega), nI_clamp (n := m % 8) (by omega)]
      refine ⟨fun w => absurd w (nI_ge (a := m) (b := 25) (by omega) (by decide)), fun _ => ⟨vp_in_nI (by omega) (by decide), vp_in_nI (by omega) (by decide), fun y4 e4 => ⟨by decide, by decide, vp_in_nI (by omega) (by decide), vp_in_nI (by omega) (by decide), fun y5 e5 v hv => ?_⟩⟩⟩
      rw [hv, nI_1]
      have x5 : y4.1 5 = y.1 5 := by rw [e4, mw_n _ _ _ (by decide)]; exact cc 5 (by decide) (by decide) (by decide)
      rw [x5] at e5
      rw [cc 4 (by decide) (by decide) (by decide)] at e4
      refine ih (m + 1) y5 (by omega) ?_ ?_ ?_ ?_
      · rw [e5, mw_n _ _ _ (by decide), e4, mw_n _ _ _ (by decide)]; exact c0
      · intro c h1 h2 h3
        rw [e5, mw_n _ _ _ h3, e4, mw_n _ _ _ h2]; exact cc c h1 h2 h3
      · intro j hj
        rw [e5, mw_n _ _ _ (by decide), e4, mw_g]
        by_cases c : j = m
        · rw [if_pos ⟨rfl, c⟩, c]
        · rw [if_neg (fun w => c w.2)]; exact c1 j (by omega)
      · intro j h8 hj
        rw [e5, mw_g]
        by_cases c : j = m % 8
        · rw [if_pos ⟨rfl, c⟩, c]
        · rw [if_neg (fun w => c w.2), e4, mw_n _ _ _ (by decide)]; exact c2 j h8 (by omega)
  exact ⟨26, key 25 0 y2 (by omega) rfl (fun c h1 _ _ => oc c h1) (fun j hj => absurd hj (by omega)) (fun j _ hj => absurd hj (by omega))⟩
