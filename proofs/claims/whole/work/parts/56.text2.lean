/-! text: both sides -/
def A0 : AL := fun a b => if a = 0 ∧ b = 0 then 4 else 0
theorem A0_ok : DOK A0 0 := by
  have td : ∀ b, ¬ tdP A0 b := by
    intro b
    unfold tdP
    rintro (w | w | ⟨j, w, _⟩)
    · exact w rfl
    · have : A0 0 3 = 0 := rfl
      rw [this, Nat.zero_div] at w
      exact absurd w (by decide)
    · have : A0 0 2 = 0 := rfl
      omega
  refine ⟨by decide, by decide, by decide, by decide, by decide, fun b _ => by show (0 : Nat) < 5; decide, fun j hj => ?_, fun t ht => ?_, by decide, fun b _ w => absurd w (td b), Or.inl rfl⟩
  · have : A0 0 2 = 0 := rfl
    omega
  · have : A0 0 1 = 0 := rfl
    omega
theorem DOK.A {A : AL} {hb : Nat} (h : DOK A hb) (hh : hb ≤ A 0 0) : AOK A := by
  obtain ⟨a1, a2, a3, a4, a5, a6, a7, a8, a9, a10, a11⟩ := h
  refine ⟨a1, a2, a3, a4, a5, a6, fun b h1 h2 => ?_, fun j hj => ?_, a8⟩
  · refine Classical.byContradiction (fun w => ?_)
    have := a10 b h2 (Or.inl w)
    omega
  · have := a10 (A 2 j) (a7 j hj) (Or.inr (Or.inr ⟨j, hj, rfl⟩))
    omega
theorem oBd_lt (n : Nat) (T : Nat → Nat) (A : AL) (bt hb p : Nat) : (oBd n T A bt hb p).1 < 10 := by
  have a1 := nmC_le n T (tE n T p) 2 8
  have a2 := nmC_le n T (tE n T p) 0 7
  have a3 := nmC_le n T (tE n T (tE n T p)) 0 7
  have a4 := nmC_le n T (tE n T (tE n T p)) 0 9
  have a5 := nmC_le n T (tE n T (tE n T (tE n T p))) 0 9
  have a6 : wyC n T (tE n T p) ≤ 2 := by
    unfold wyC
    by_cases x : tX n T (tE n T p)
    · rw [ci_y x]; decide
    · rw [ci_n x]
      by_cases x2 : wd n T (tE n T p) < 11 ∨ wd n T (tE n T p) = 13
      · rw [if_pos x2]; decide
      · rw [if_neg x2]; decide
  unfold oBd oBl oOm oGu oLk oTr
  repeat' split
  all_goals (first | (show _ < 10; omega) | (simp; omega) | simp)
theorem oLn_lt (n : Nat) (T : Nat → Nat) (A : AL) (bt hb p : Nat) : (oLn n T A bt hb p).1 < 10 := by
  unfold oLn oSm
  have a1 := oBd_lt n T A bt hb p
  have a2 : smC n T (oBd n T A bt hb p).2.2.2.2.2 ≤ 2 := by
    unfold smC
    by_cases x : tX n T (oBd n T A bt hb p).2.2.2.2.2
    · rw [ci_y x]; decide
    · rw [ci_n x]
      by_cases x2 : tK n T (oBd n T A bt hb p).2.2.2.2.2 ≠ 3
      · rw [if_pos x2]; decide
      · rw [if_neg x2]; decide
  by_cases c : (oBd n T A bt hb p).1 ≠ 0
  · rw [if_pos c]; exact a1
  · rw [if_neg c]
    by_cases d : smC n T (oBd n T A bt hb p).2.2.2.2.2 ≠ 0
    · rw [if_pos d]; show smC n T (oBd n T A bt hb p).2.2.2.2.2 < 10; omega
    · rw [if_neg d]; show 0 < 10; decide
/-- the text was refused -/
theorem Rel.bad {zx zm z8 y8 : MX} (h : Rel zx zm) (hx : NX zx z8) (hm : NM zm y8) (v : Int32) : Rel (mw (mw z8 24 1 0) 38 10 v) (mw (mw y8 0 15 0) 0 16 v) := by
  have h2 := h.N hx hm
  obtain ⟨A, a, b, c, d, e, f, g, i, j, k⟩ := h2
  have cx : ∀ c, c ≠ 24 → c ≠ 38 → (mw (mw z8 24 1 0) 38 10 v).1 c = z8.1 c := fun c h1 h2 => by rw [mw_n _ _ _ h2, mw_n _ _ _ h1]
  have cm : ∀ c, c ≠ 0 → (mw (mw y8 0 15 0) 0 16 v).1 c = y8.1 c := fun c h1 => by rw [mw_n _ _ _ h1, mw_n _ _ _ h1]
  have c0 : ∀ k, k ≠ 15 → k ≠ 16 → (mw (mw y8 0 15 0) 0 16 v).1 0 k = y8.1 0 k := fun k h1 h2 => by rw [mw_k _ _ h2, mw_k _ _ h1]
  refine ⟨A, a, b.cells (fun c _ _ => cx c (by omega) (by omega)), c.cells (fun k hk => c0 k (by omega) (by omega)) (fun c _ _ => cm c (by omega)), d.e (cx 40 (by decide) (by decide)) (fun c _ _ => cx c (by omega) (by omega)) (cm 16 (by decide)) (fun k _ _ => by rw [cm 1 (by decide)]), ⟨0, by decide, ?_, ?_, fun k hk => absurd hk (by omega)⟩, f.e (by rw [cx 33 (by decide) (by decide)]) (fun c _ _ => cx c (by omega) (by omega)) (c0 37 (by decide) (by decide)) (cm 14 (by decide)), g.e (fun c _ _ => cx c (by omega) (by omega)) (fun c _ _ => cm c (by omega)), i.e (cm 7 (by decide)) (cm 8 (by decide)), ?_, ?_⟩
  · rw [mw_n _ _ _ (by decide), mw_s]; rfl
  · rw [mw_k _ _ (by decide), mw_s]; rfl
  · rw [mw_s, mw_s]
  · rw [mw_k _ _ (by decide), mw_n _ _ _ (by decide), c0 44 (by decide) (by decide)]; exact k
theorem pa_s (post : Int32 → MX → Prop) (n : Nat) : pX5_parse_L23 1 post (n + 1) = pX5_parse_l23 1 (pX5_parse_L23 1 post n) post := rfl
/-- the class behind its parse -/
def txP (zm : MX) : Int32 → MX → Prop := fun r8 z8 =>
  ∀ z17 : MX, z17 = mw z8 24 1 (0 : Int32) →
  ∀ z28 : MX, z28 = mw z17 38 10 (z17.1 24 2) →
  (((z28.1 38 10) = 0 →
    pX0_copyFrom 0 1 z28 (fun (z57 : MX) =>
    ∀ z65 : MX, z65 = mw z57 33 6 (0 : Int32) →
    vp_in (0 : Int32) 2 ∧
    ((0 : Int32) = 0 ∨ (0 : Int32) = 1) ∧
    ∀ z74 : MX, z74 = mw z65 40 (Int32.toNatClampNeg (0 : Int32)) (0 : Int32) →
    vp_in (1 : Int32) 2 ∧
    ((0 : Int32) = 0 ∨ (0 : Int32) = 1) ∧
    ∀ z81 : MX, z81 = mw z74 40 (Int32.toNatClampNeg (1 : Int32)) (0 : Int32) →
    pX8_text zm (fun r2 zm1 => r8 = r2 ∧ Rel z81 zm1))) ∧
  (¬ (z28.1 38 10) = 0 →
    pX8_text zm (fun r2 zm1 => ((-10 : Int32) - (z28.1 24 3)) = r2 ∧ Rel z28 zm1)))
theorem txP_ft {zx zm z8 : MX} (h : Rel zx zm) {c pl : Nat} (hc : 0 < c) (hc2 : c < 10) (hF : FtX zx z8 c pl) (hM : ∀ Q : Int32 → MX → Prop, (∀ y8, NM zm y8 → Q (-10 - nI pl) (mw (mw y8 0 15 0) 0 16 (nI c))) → pX8_text zm Q) (r : Int32) : txP zm r z8 := by
  unfold txP
  intro z1 e1 z2 e2
  have g2 : z1.1 24 2 = nI c := by rw [e1, mw_k _ _ (by decide)]; exact hF.2.1
  rw [g2] at e2
  have k10 : z2.1 38 10 = nI c := by rw [e2, mw_s]
  have k3 : z2.1 24 3 = nI pl := by rw [e2, mw_n _ _ _ (by decide), e1, mw_k _ _ (by decide)]; exact hF.2.2
  rw [k10, k3]
  refine ⟨fun w => absurd w (nI_n0 hc hc2), fun _ => hM _ (fun y8 n8 => ⟨rfl, ?_⟩)⟩
  rw [e2, e1]
  exact h.bad hF.1 n8 _
set_option maxHeartbeats 4000000 in
theorem txP_ok {zx zm z8 : MX} (h : Rel zx zm) {A : AL} {hb bt p : Nat} (hA : DOK A hb) (hh : hb ≤ A 0 0) (hR : RpX zx z8 A bt p) (r : Int32) (hM : ∀ Q : Int32 → MX → Prop, (∀ y8, LM y8 A → (∀ c, c = 6 ∨ c = 7 ∨ c = 8 ∨ 17 ≤ c ∧ c ≤ 19 → y8.1 c = zm.1 c) → y8.1 0 44 = zm.1 0 44 → y8.1 0 15 = 0 → y8.1 0 16 = 0 → y8.1 0 37 = 0 → y8.1 16 0 = 0 → y8.1 16 1 = 0 → Q r y8) → pX8_text zm Q) : txP zm r z8 := by
  unfold txP
  intro z1 e1 z2 e2
  obtain ⟨r1, r2, r3, r4, r5⟩ := hR
  have g2 : z1.1 24 2 = 0 := by rw [e1, mw_k _ _ (by decide)]; exact r3
  rw [g2] at e2
  have k10 : z2.1 38 10 = 0 := by rw [e2, mw_s]
  rw [k10]
  refine ⟨fun _ => ?_, fun w => absurd rfl w⟩
  have L2 : LX 1 z2 A := r2.cells (fun c _ _ => by rw [e2, mw_n _ _ _ (by omega), e1, mw_n _ _ _ (by omega)])
  have aA := hA.A hh
  refine sX_copy (by decide) L2 aA.2.2.2.1 aA.2.2.1 _ (fun z3 f3 q3 z4 e4 => ⟨vp_in_nI (n := 0) (by decide) (by decide), Or.inl rfl, fun z5 e5 => ⟨vp_in_nI (n := 1) (by decide) (by decide), Or.inl rfl, fun z6 e6 => hM _ (fun y8 l8 c8 c44 c15 c16 c37 k0 k1 => ⟨rfl, ?_⟩)⟩⟩)
  rw [show Int32.toNatClampNeg (0 : Int32) = 0 from rfl] at e5
  rw [show Int32.toNatClampNeg (1 : Int32) = 1 from rfl] at e6
  obtain ⟨A', _, _, _, _, e, f, g, i, j, k⟩ := h
  have cx : ∀ c, 4 ≤ c → c ≠ 33 → c ≠ 40 → z6.1 c = z2.1 c := fun c h1 h2 h3 => by rw [e6, mw_n _ _ _ h3, e5, mw_n _ _ _ h3, e4, mw_n _ _ _ h2, f3.1 c (by omega)]
  have cz : ∀ c, 4 ≤ c → c ≠ 33 → c ≠ 40 → c ≠ 24 → c ≠ 38 → z6.1 c = z8.1 c := fun c h1 h2 h3 h4 h5 => by rw [cx c h1 h2 h3, e2, mw_n _ _ _ h5, e1, mw_n _ _ _ h4]
  refine ⟨A, aA, q3.cells (fun c _ _ => by rw [e6, mw_n _ _ _ (by omega), e5, mw_n _ _ _ (by omega), e4, mw_n _ _ _ (by omega)]), l8, ?_, ⟨0, by decide, ?_, by rw [c15]; rfl, fun k hk => absurd hk (by omega)⟩, ⟨0, by decide, ?_, by rw [c37]; rfl, fun k hk => absurd hk (by omega)⟩, ?_, ?_, ?_, ?_⟩
  · intro m hm
    have : m = 0 ∨ m = 1 := by omega
    rcases this with e | e <;> subst e
    · rw [k0]
      exact ⟨by rw [e6, mw_k _ _ (by decide), e5, mw_s], Or.inl rfl⟩
    · rw [k1]
      exact ⟨by rw [e6, mw_s], Or.inl rfl⟩
  · rw [cx 24 (by decide) (by decide) (by decide), e2, mw_n _ _ _ (by decide), e1, mw_s]; rfl
  · rw [e6, mw_n _ _ _ (by decide), e5, mw_n _ _ _ (by decide), e4, mw_s]; rfl
  · exact g.e (fun c h1 h2 => by rw [cz c (by omega) (by omega) (by omega) (by omega) (by omega)]; exact r1.1 c (by omega)) (fun c h1 h2 => c8 c (by omega))
  · exact i.e (c8 7 (by omega)) (c8 8 (by omega))
  · rw [cx 38 (by decide) (by decide) (by decide), k10, c16]
  · rw [cx 38 (by decide) (by decide) (by decide), e2, mw_k _ _ (by decide), e1, mw_n _ _ _ (by decide), r1.1 38 (by omega), c44]; exact k
/-- the reference has come to the token at p, behind i lines -/
def Fw (zm : MX) (n : Nat) (T : Nat → Nat) (A : AL) (bt hb p i : Nat) : Prop := ∀ Q : Int32 → MX → Prop, (tX n T p → ∀ y, FtM zm y 1 (tS n T p) → pX8_text_L67 Q (162 - i) y (nI i)) → (∀ y, DfM zm y A bt hb → TkL y n T p → pX8_text_L67 Q (162 - i) y (nI i)) → pX8_text zm Q
set_option maxHeartbeats 4000000 in
theorem Fw_0 {zm : MX} {n : Nat} {T : Nat → Nat} (hT : TpM zm n T) : Fw zm n T A0 0 0 0 0 := by
  intro Q hX hD
  unfold pX8_text
  intro y1 e1 y2 e2 y3 e3 y4 e4 y5 e5 y6 e6 y7 e7 y8 e8
  have n8 : NM zm y8 := by
    have w : ∀ {z z1 : MX} (k : Nat) (v : Int32), NM z z1 → (k = 17 ∨ k = 19 ∨ 8 ≤ k ∧ k ≤ 13) → NM z (mw z1 0 k v) := fun {z z1} k v h hk => ⟨fun c hc => by rw [mw_n _ _ _ (by omega)]; exact h.1 c hc, fun q hq => by rw [mw_k _ _ (by omega)]; exact h.2.1 q hq, fun q hq => by rw [mw_n _ _ _ (by decide)]; exact h.2.2 q hq⟩
    rw [e8, e7, e6, e5, e4, e3, e2, e1]
    exact w _ _ (w _ _ (w _ _ (w _ _ (w _ _ (w _ _ (w _ _ (w _ _ (NM.rf zm) (by omega)) (by omega)) (by omega)) (by omega)) (by omega)) (by omega)) (by omega)) (by omega)
  have g : y8.1 0 17 = 0 ∧ y8.1 0 19 = 0 ∧ y8.1 0 8 = 4 ∧ y8.1 0 9 = 0 ∧ y8.1 0 10 = 0 ∧ y8.1 0 11 = 0 ∧ y8.1 0 12 = 0 ∧ y8.1 0 13 = -1 := by
    rw [e8, e7, e6, e5, e4, e3, e2, e1]
    simp only [mw_g]
    simp
  obtain ⟨g17, g19, g8, g9, g10, g11, g12, g13⟩ := g
  have key : ∀ k m y9, m + k = 25 → y9.1 0 = y8.1 0 → NM zm y9 → (∀ j, j < m → y9.1 4 j = 0) → pX8_text_L44 Q (k + 1) y9 (nI 0) (nI m) := by
    intro k
    induction k with
    | zero =>
      intro m y9 hm c0 n9 c4
      rw [tx_s44]
      unfold pX8_text_l44
      have em : m = 25 := by omega
      rw [em] at c4 ⊢
      refine ⟨fun _ => ?_, fun w => absurd (by decide) w⟩
      have D9 : DfM zm y9 A0 0 0 := by
        refine ⟨n9, ?_, ?_, ?_, ?_, ?_, ?_, ?_, ?_, ?_, ?_⟩
        · rw [c0, g8]; rfl
        · rw [c0, g9]; rfl
        · rw [c0, g10]; rfl
        · rw [c0, g11]; rfl
        · rw [c0, g12]; rfl
        · rw [c0, g13]; decide
        · intro b hb; rw [c4 b (by omega)]; rfl
        · rw [c4 8 (by decide)]; rfl
        · intro j hj
          have : A0 0 2 = 0 := rfl
          omega
        · intro t w ht
          have : A0 0 1 = 0 := rfl
          omega
      refine sM_step1 (hT.N n9) (p := 0) (Nat.zero_le _) (by rw [c0]; exact g17) (by rw [c0]; exact g19) _ (fun x y10 k e17 => ?_) (fun x y10 k e17 e18 => ?_)
      · exact ⟨_, hD y10 (D9.T k.1) ⟨x, e17, k.2.1, k.2.2.1, k.2.2.2.1, fun w => k.2.2.2.2 w x⟩⟩
      · exact ⟨_, hX x y10 ⟨n9.tr (NM_T k.1), e17, e18⟩⟩
    | succ k ih =>
      intro m y9 hm c0 n9 c4
      rw [tx_s44]
      unfold pX8_text_l44
      rw [nI_clamp (by omega)]
      refine ⟨fun w => absurd w (nI_ge (a := m) (b := 25) (by omega) (by decide)), fun _ => ⟨vp_in_nI (by omega) (by decide), fun y10 e10 v hv => ?_⟩⟩
      rw [hv, nI_1]
      refine ih (m + 1) y10 (by omega) (by rw [e10, mw_n _ _ _ (by decide)]; exact c0) (by rw [e10]; exact NM_wc n9 _ _ (Or.inl rfl)) (fun j hj => ?_)
      rw [e10, mw_g]
      by_cases c : j = m
      · rw [if_pos ⟨rfl, c⟩]
      · rw [if_neg (fun w => c w.2)]; exact c4 j (by omega)
  exact ⟨26, key 25 0 y8 (by omega) rfl n8 (fun j hj => absurd hj (by omega))⟩
/-- one line on -/
theorem Fw_1 {zm : MX} {n : Nat} {T : Nat → Nat} (hT : TpM zm n T) (hC : CstR zm) {A : AL} {bt hb p i : Nat} (hi : i ≤ 160) (hp : p ≤ n) (hA : DOK A hb) (hbt : bt < 2) (hx : ¬ tX n T p) (hk : tK n T p ≠ 0) (h : Fw zm n T A bt hb p i) (Q : Int32 → MX → Prop) (hF : (oLn n T A bt hb p).1 ≠ 0 → ∀ y, FtM zm y (oLn n T A bt hb p).1 (oLn n T A bt hb p).2.1 → pX8_text_L67 Q (162 - (i + 1)) y (nI (i + 1))) (hX : (oLn n T A bt hb p).1 = 0 → tX n T (oLn n T A bt hb p).2.2.2.2.2 → ∀ y, FtM zm y 1 (tS n T (oLn n T A bt hb p).2.2.2.2.2) → pX8_text_L67 Q (162 - (i + 1)) y (nI (i + 1))) (hO : (oLn n T A bt hb p).1 = 0 → ∀ y, DfM zm y (oLn n T A bt hb p).2.2.1 (oLn n T A bt hb p).2.2.2.1 (oLn n T A bt hb p).2.2.2.2.1 → TkL y n T (oLn n T A bt hb p).2.2.2.2.2 → pX8_text_L67 Q (162 - (i + 1)) y (nI (i + 1))) : pX8_text zm Q := by
  refine h Q (fun w => absurd w hx) (fun y D K => ?_)
  have kl := tK_lt n T p
  rw [show 162 - i = (162 - (i + 1)) + 1 by omega, tx_s67]
  unfold pX8_text_l67
  obtain ⟨_, e17, e19, e20, e21, e22⟩ := id K
  rw [e17, e21, show (0 : Int32) = nI 0 from rfl, nI_eq (a := tK n T p) (by omega) (by decide)]
  refine ⟨fun w => absurd rfl w, fun _ => ⟨fun w => absurd w hk, fun _ => sM_line hT hC hp hA hbt D K _ ⟨fun o0 y1 D1 K1 v hv => ?_, fun o0 tx y1 F1 v hv => ?_, fun o0 y1 F1 v hv => ?_⟩⟩⟩
  · rw [hv, nI_1]; exact hO o0 y1 D1 K1
  · rw [hv, nI_1]; exact hX o0 tx y1 F1
  · rw [hv, nI_1]; exact hF o0 y1 F1
theorem sM_endC {zm y : MX} {c pl : Nat} (hc : 0 < c) (hc2 : c < 10) (h : FtM zm y c pl) (x : Int32) (Q : Int32 → MX → Prop) {m : Nat} (hm : 0 < m) (hQ : ∀ y8, NM zm y8 → Q (-10 - nI pl) (mw (mw y8 0 15 0) 0 16 (nI c))) : pX8_text_L67 Q m y x := by
  obtain ⟨k, rfl⟩ : ∃ k, m = k + 1 := ⟨m - 1, by omega⟩
  rw [tx_s67]
  exact ⟨fun _ => ⟨fun _ => sM_b115B hc hc2 h x Q hQ, fun w => absurd w (h.z hc hc2)⟩, fun w => absurd w (h.z hc hc2)⟩
/-- at the end of the text -/
theorem sM_end {zm y : MX} {n : Nat} {T : Nat → Nat} {A : AL} {bt hb p : Nat} (hA : DOK A hb) (hD : DfM zm y A bt hb) (hK : TkL y n T p) (hk : tK n T p = 0) (hw : ∀ j, j < 20 → zm.1 3 j = xWait j) (x : Int32) (Q : Int32 → MX → Prop) {m : Nat} (hm : 0 < m) (c6 : ¬ hb ≤ A 0 0 → ∀ y8, NM zm y8 → Q (-10 - nI (tS n T p)) (mw (mw y8 0 15 0) 0 16 (nI 6))) (c7 : hb ≤ A 0 0 → ¬ alP A (obN (A 1) 8) (A 0 2) → ∀ y8, NM zm y8 → Q (-10 - nI (tS n T p)) (mw (mw y8 0 15 0) 0 16 (nI 7))) (c0 : hb ≤ A 0 0 → alP A (obN (A 1) 8) (A 0 2) → ∀ y8, LM y8 A → (∀ c, c = 6 ∨ c = 7 ∨ c = 8 ∨ 17 ≤ c ∧ c ≤ 19 → y8.1 c = zm.1 c) → y8.1 0 44 = zm.1 0 44 → y8.1 0 15 = 0 → y8.1 0 16 = 0 → y8.1 0 37 = 0 → y8.1 16 0 = 0 → y8.1 16 1 = 0 → Q x y8) : pX8_text_L67 Q m y x := by
  obtain ⟨k, rfl⟩ : ∃ k, m = k + 1 := ⟨m - 1, by omega⟩
  obtain ⟨nx, e17, e19, e20, e21, e22⟩ := id hK
  rw [tx_s67]
  unfold pX8_text_l67
  rw [e17, e21, hk]
  refine ⟨fun w => absurd rfl w, fun _ => ⟨fun _ => ?_, fun w => absurd rfl w⟩⟩
  unfold pX8_text_b91
  have h9 := hA.2.2.2.2.2.2.2.2.1
  have h2 := hA.2.1
  rw [e17, hD.2.2.2.2.2.2.1, hD.2.1]
  have lt : nI hb - 1 < nI (A 0 0) ↔ hb ≤ A 0 0 := by
    rw [← Int32.not_le, hb_le (by omega) (by omega)]
    omega
  rw [lt]
  refine ⟨fun w => absurd rfl w, fun _ => ⟨fun l => ?_, fun l => sM_fails0 e17 _ _ (fun y1 f1 g1 g2 go => sM_b115B (c := 6) (by decide) (by decide) ⟨hD.1.tr (NM_T f1), g1, by rw [g2]; exact e20⟩ x Q (c6 l))⟩⟩
  unfold pX8_text_b115
  rw [e17]
  refine ⟨fun w => absurd rfl w, fun _ => sM_both hA hD _ (fun al => ⟨fun w => absurd w (by decide), fun _ => sM_fails0 e17 _ _ (fun y1 f1 g1 g2 go => sM_b135B (c := 7) (by decide) (by decide) ⟨hD.1.tr (NM_T f1), g1, by rw [g2]; exact e20⟩ x Q (c7 l al))⟩) (fun al => ⟨fun _ => sM_take hA hD e17 hw x Q (c0 l al), fun w => absurd rfl w⟩)⟩
set_option maxHeartbeats 4000000 in
theorem q_text {zx zm : MX} (h : Rel zx zm) : pX7_text zx (fun r zx1 => pX8_text zm (fun r2 zm1 => r = r2 ∧ Rel zx1 zm1)) := by
  have h0 := h
  obtain ⟨A', a', b', c', d', ⟨n, n1, n2, n3, n4⟩, f', g', i', j', k'⟩ := h
  have hT : ∃ T : Nat → Nat, TpX zx n T ∧ TpM zm n T := by
    refine ⟨fun k => (zm.1 6 k).toNatClampNeg, ⟨n1, fun k hk => ?_, n2, fun k hk => ?_⟩, ⟨n1, fun k hk => ?_, n3, fun k hk => ?_⟩⟩
    · obtain ⟨_, c, hc, e⟩ := n4 k hk
      show (zm.1 6 k).toNatClampNeg < 128
      rw [e, nI_clamp (by omega)]; exact hc
    · obtain ⟨e1, c, hc, e⟩ := n4 k hk
      show zx.1 25 k = nI (zm.1 6 k).toNatClampNeg
      rw [e1, e, nI_clamp (by omega)]
    · obtain ⟨_, c, hc, e⟩ := n4 k hk
      show (zm.1 6 k).toNatClampNeg < 128
      rw [e, nI_clamp (by omega)]; exact hc
    · obtain ⟨e1, c, hc, e⟩ := n4 k hk
      show zm.1 6 k = nI (zm.1 6 k).toNatClampNeg
      rw [e, nI_clamp (by omega)]
  obtain ⟨T, hX, hM⟩ := hT
  have hw := c'.2.2.2.2.2.2.2
  have key : ∀ k i A bt hb p z, i + k = 161 → i ≤ p → p ≤ n → DOK A hb → bt < 2 → RpX zx z A bt p → Fw zm n T A bt hb p i → pX5_parse_L23 1 (txP zm) (k + 1) z (nI i) (nI i) := by
    intro k
    induction k with
    | zero =>
      intro i A bt hb p z hk hip hp
      omega
    | succ k ih =>
      intro i A bt hb p z hk hip hp hA hbt hR hF
      rw [pa_s]
      unfold pX5_parse_l23 pX5_parse_b47
      refine ⟨fun w => absurd w (nI_nlt (a := 160) (b := i) (by omega) (by omega)), fun _ => ?_⟩
      refine sX_line hX hp hA hbt hR _ (fun x z1 f1 => ⟨fun _ => ⟨fun _ => ?_, fun w => ?_⟩, fun w => absurd rfl w⟩) (fun x k0 z1 r1 g6 => ⟨fun _ => ⟨fun w => absurd r1.2.2.1 w, fun _ => ?_⟩, fun w => absurd rfl w⟩) (fun x k0 o z1 f1 => ⟨fun _ => ⟨fun _ => ?_, fun w => ?_⟩, fun w => absurd rfl w⟩) (fun x k0 o z1 r1 => ⟨fun w => absurd w (by decide), fun _ v hv u hu => ?_⟩) (fun o => (oBd_ok hA hbt hp o).2.2.2)
      · exact txP_ft h0 (c := 1) (by decide) (by decide) f1 (fun Q hQ => hF Q (fun _ y fy => sM_endC (by decide) (by decide) fy _ Q (by omega) hQ) (fun y _ K => absurd x K.1)) _
      · exact absurd (f1.2.1.symm.trans w) (nI_n0 (c := 1) (by decide) (by decide))
      · refine sX_check hA r1 g6 _ (fun l z2 f2 => ?_) (fun l al z2 f2 => ?_) (fun l al => ?_)
        · exact txP_ft h0 (c := 6) (by decide) (by decide) f2 (fun Q hQ => hF Q (fun w => absurd w x) (fun y D K => sM_end hA D K k0 hw _ Q (by omega) (fun _ => hQ) (fun l2 => absurd l2 l) (fun l2 => absurd l2 l))) _
        · exact txP_ft h0 (c := 7) (by decide) (by decide) f2 (fun Q hQ => hF Q (fun w => absurd w x) (fun y D K => sM_end hA D K k0 hw _ Q (by omega) (fun l2 => absurd l l2) (fun _ _ => hQ) (fun _ al2 => absurd al2 al))) _
        · exact txP_ok h0 hA l r1 _ (fun Q hQ => hF Q (fun w => absurd w x) (fun y D K => sM_end hA D K k0 hw _ Q (by omega) (fun l2 => absurd l l2) (fun _ al2 => absurd al al2) (fun _ _ => hQ)))
      · have oc : 0 < (oLn n T A bt hb p).1 := Nat.pos_of_ne_zero o
        have ol : (oLn n T A bt hb p).1 < 10 := oLn_lt n T A bt hb p
        exact txP_ft h0 oc ol f1 (fun Q hQ => Fw_1 hM i' (by omega) hp hA hbt x k0 hF Q (fun _ y fy => sM_endC oc ol fy _ Q (by omega) hQ) (fun o0 => absurd o0 o) (fun o0 => absurd o0 o)) _
      · exact absurd (f1.2.1.symm.trans w) (nI_n0 (Nat.pos_of_ne_zero o) (oLn_lt n T A bt hb p))
      · rw [hv, hu, nI_1]
        obtain ⟨o1, o2, o3, o4⟩ := oLn_ok hA hbt hp o
        have pe := tE_lt hp k0
        exact ih (i + 1) _ _ _ _ z1 (by omega) (by omega) o4 o1 o2 r1 (fun Q qX qD => Fw_1 hM i' (by omega) hp hA hbt x k0 hF Q (fun w => absurd o w) (fun _ tx y fy => qX tx y fy) (fun _ y D K => qD y D K))
  show pX5_parse 1 zx (txP zm)
  unfold pX5_parse pX0_clear
  intro z1 e1 z2 e2 z3 e3 z4 e4 z5 e5 z6 e6 z7 e7 z8 e8
  refine ⟨162, key 161 0 A0 0 0 0 z8 (by omega) (Nat.le_refl _) (Nat.zero_le _) A0_ok (by decide) ⟨?_, ?_, ?_, ?_, ?_⟩ (Fw_0 hM)⟩
  · have n4' : NX zx z4 := by
      rw [e4, e3, e2, e1]
      exact ((((NX.rf zx).mw _ _ (by omega)).mw _ _ (by omega)).mw _ _ (by omega)).mw _ _ (by omega)
    have f5 : fr 5 5 z4 z5 := by rw [e5]; exact (fr.rf 5 5 z4).mf _ (by omega) (by omega)
    have f8 : fr 24 24 z5 z8 := by rw [e8, e7, e6]; exact (((fr.rf 24 24 z5).mw _ _ (by omega) (by omega)).mw _ _ (by omega) (by omega)).mw _ _ (by omega) (by omega)
    exact (n4'.tr (NX.of f5 (by omega))).tr (NX_24 f8 (by rw [e8, mw_k _ _ (by decide), e7, mw_k _ _ (by decide), e6, mw_k _ _ (by decide)]))
  · have c8 : ∀ c, c ≠ 24 → z8.1 c = z5.1 c := fun c hc => by rw [e8, mw_n _ _ _ hc, e7, mw_n _ _ _ hc, e6, mw_n _ _ _ hc]
    have c5 : ∀ k, z5.1 (4 * 1) k = z4.1 (4 * 1) k := fun k => by rw [e5, mf_ne _ _ (by decide)]
    have g : z4.1 (4 * 1) 0 = 4 ∧ z4.1 (4 * 1) 1 = 0 ∧ z4.1 (4 * 1) 2 = 0 ∧ z4.1 (4 * 1) 3 = 0 := by
      rw [e4, e3, e2, e1]
      simp only [mw_g]
      simp
    refine ⟨?_, ?_, ?_, ?_, ?_, ?_, ?_⟩
    · rw [c8 _ (by decide), c5, g.1]; rfl
    · rw [c8 _ (by decide), c5, g.2.1]; rfl
    · rw [c8 _ (by decide), c5, g.2.2.1]; rfl
    · rw [c8 _ (by decide), c5, g.2.2.2]; rfl
    · intro b hb
      rw [c8 _ (by decide), e5, mf_g, if_pos rfl, if_pos hb]; rfl
    · intro j hj
      have : A0 0 2 = 0 := rfl
      omega
    · intro t w ht
      have : A0 0 1 = 0 := rfl
      omega
  · rw [e8, mw_k _ _ (by decide), e7, mw_k _ _ (by decide), e6, mw_s]
  · rw [e8, mw_k _ _ (by decide), e7, mw_s]; rfl
  · rw [e8, mw_s]; rfl
