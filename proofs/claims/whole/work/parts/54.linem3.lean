/-! a line of the text: what comes of it is well formed -/
theorem oBd_ok {n : Nat} {T : Nat → Nat} {A : AL} {bt hb p : Nat} (hA : DOK A hb) (hbt : bt < 2) (hp : p ≤ n) (h : (oBd n T A bt hb p).1 = 0) : DOK (oBd n T A bt hb p).2.2.1 (oBd n T A bt hb p).2.2.2.2.1 ∧ (oBd n T A bt hb p).2.2.2.1 < 2 ∧ tE n T p ≤ (oBd n T A bt hb p).2.2.2.2.2 ∧ (oBd n T A bt hb p).2.2.2.2.2 ≤ n := by
  have q0 := tE_b (T := T) hp
  have q1 := tE_b (T := T) q0.2
  have s1 := tS_b (T := T) q0.2
  have q2 := tE_b (T := T) q1.2
  have s2 := tS_b (T := T) q1.2
  have q3 := tE_b (T := T) q2.2
  have s3 := tS_b (T := T) q2.2
  have q4 := tE_b (T := T) q3.2
  have s4 := tS_b (T := T) q3.2
  have wl := wd_le n T p
  unfold oBd at h ⊢
  by_cases w0 : wd n T p = 0
  · rw [if_pos w0] at h ⊢
    unfold oBl at h ⊢
    by_cases c : bt ≠ 0
    · rw [if_pos c] at h; exact absurd h (by show ¬ (4 : Nat) = 0; decide)
    · rw [if_neg c] at h ⊢
      by_cases d : nmC n T (tE n T p) 2 8 ≠ 0
      · rw [if_pos d] at h; exact absurd h d
      · rw [if_neg d]
        obtain ⟨_, _, v1, v2⟩ := nmC_0 (Classical.byContradiction d)
        exact ⟨hA.bl v1 v2, (by show (1 : Nat) < 2; decide), by show tE n T p ≤ tE n T (tE n T p); omega, q1.2⟩
  rw [if_neg w0] at h ⊢
  by_cases w4 : wd n T p ≤ 4
  · rw [if_pos w4] at h ⊢
    unfold oOm at h ⊢
    by_cases d : nmC n T (tE n T p) 0 7 ≠ 0
    · rw [if_pos d] at h; exact absurd h d
    · rw [if_neg d] at h ⊢
      by_cases c : A 1 (tV n T (tE n T p)) ≠ 0
      · rw [if_pos c] at h; exact absurd h (by show ¬ (4 : Nat) = 0; decide)
      · rw [if_neg c]
        obtain ⟨_, _, v1, v2⟩ := nmC_0 (Classical.byContradiction d)
        exact ⟨hA.om (by omega) (Classical.byContradiction c) (by omega) (by omega), hbt, by show tE n T p ≤ tE n T (tE n T p); omega, q1.2⟩
  rw [if_neg w4] at h ⊢
  by_cases w5 : wd n T p = 5
  · rw [if_pos w5] at h ⊢
    unfold oGu at h ⊢
    by_cases d : nmC n T (tE n T p) 0 7 ≠ 0
    · rw [if_pos d] at h; exact absurd h d
    · rw [if_neg d] at h ⊢
      by_cases c : A 0 3 / 2 ^ tV n T (tE n T p) % 2 = 1
      · rw [if_pos c] at h; exact absurd h (by show ¬ (4 : Nat) = 0; decide)
      · rw [if_neg c]
        obtain ⟨_, _, v1, v2⟩ := nmC_0 (Classical.byContradiction d)
        exact ⟨hA.gu (by omega), hbt, by show tE n T p ≤ tE n T (tE n T p); omega, q1.2⟩
  rw [if_neg w5] at h ⊢
  by_cases w6 : wd n T p = 6
  · rw [if_pos w6] at h ⊢
    unfold oLk at h ⊢
    by_cases l : 4 ≤ A 0 2
    · rw [if_pos l] at h; exact absurd h (by show ¬ (5 : Nat) = 0; decide)
    · rw [if_neg l] at h ⊢
      by_cases d : nmC n T (tE n T p) 0 7 ≠ 0
      · rw [if_pos d] at h; exact absurd h d
      · rw [if_neg d] at h ⊢
        by_cases e : nmC n T (tE n T (tE n T p)) 0 7 ≠ 0
        · rw [if_pos e] at h; exact absurd h e
        · rw [if_neg e] at h ⊢
          by_cases c : tV n T (tE n T (tE n T p)) = tV n T (tE n T p)
          · rw [if_pos c] at h; exact absurd h (by show ¬ (3 : Nat) = 0; decide)
          · rw [if_neg c]
            obtain ⟨_, _, v1, v2⟩ := nmC_0 (Classical.byContradiction d)
            obtain ⟨_, _, v3, v4⟩ := nmC_0 (Classical.byContradiction e)
            exact ⟨hA.lk (by omega) (by omega) (by omega), hbt, by show tE n T p ≤ tE n T (tE n T (tE n T p)); omega, q2.2⟩
  rw [if_neg w6] at h ⊢
  by_cases w10 : wd n T p ≤ 10
  · rw [if_pos w10] at h ⊢
    unfold oTr at h ⊢
    by_cases l : 4 ≤ A 0 1
    · rw [if_pos l] at h; exact absurd h (by show ¬ (5 : Nat) = 0; decide)
    · rw [if_neg l] at h ⊢
      by_cases y : wyC n T (tE n T p) ≠ 0
      · rw [if_pos y] at h; exact absurd h y
      · rw [if_neg y] at h ⊢
        by_cases d : nmC n T (tE n T (tE n T p)) 0 9 ≠ 0
        · rw [if_pos d] at h; exact absurd h d
        · rw [if_neg d] at h ⊢
          by_cases e : nmC n T (tE n T (tE n T (tE n T p))) 0 9 ≠ 0
          · rw [if_pos e] at h; exact absurd h e
          · rw [if_neg e]
            obtain ⟨_, _, v1, v2⟩ := nmC_0 (Classical.byContradiction d)
            obtain ⟨_, _, v3, v4⟩ := nmC_0 (Classical.byContradiction e)
            have wl2 := wd_le n T (tE n T p)
            have yy : ¬ (wd n T (tE n T p) < 11 ∨ wd n T (tE n T p) = 13) := by
              intro w
              apply y
              unfold wyC
              by_cases x : tX n T (tE n T p)
              · rw [ci_y x]; decide
              · rw [ci_n x, if_pos w]; decide
            exact ⟨hA.tr (by omega) (by omega) (by omega) (by omega) (by omega), hbt, by show tE n T p ≤ tE n T (tE n T (tE n T (tE n T p))); omega, q3.2⟩
  · rw [if_neg w10] at h
    exact absurd h (by show ¬ (2 : Nat) = 0; decide)
theorem oLn_ok {n : Nat} {T : Nat → Nat} {A : AL} {bt hb p : Nat} (hA : DOK A hb) (hbt : bt < 2) (hp : p ≤ n) (h : (oLn n T A bt hb p).1 = 0) : DOK (oLn n T A bt hb p).2.2.1 (oLn n T A bt hb p).2.2.2.2.1 ∧ (oLn n T A bt hb p).2.2.2.1 < 2 ∧ tE n T p ≤ (oLn n T A bt hb p).2.2.2.2.2 ∧ (oLn n T A bt hb p).2.2.2.2.2 ≤ n := by
  unfold oLn oSm at h ⊢
  by_cases c : (oBd n T A bt hb p).1 ≠ 0
  · rw [if_pos c] at h; exact absurd h c
  · rw [if_neg c] at h ⊢
    obtain ⟨o1, o2, o3, o4⟩ := oBd_ok hA hbt hp (Classical.byContradiction c)
    by_cases d : smC n T (oBd n T A bt hb p).2.2.2.2.2 ≠ 0
    · rw [if_pos d] at h; exact absurd h d
    · rw [if_neg d]
      have q := tE_b (T := T) o4
      have s := tS_b (T := T) o4
      exact ⟨o1, o2, by show tE n T p ≤ tE n T (oBd n T A bt hb p).2.2.2.2.2; omega, q.2⟩
/-- the next token is none: so the body ends -/
theorem oBd_x {n : Nat} {T : Nat → Nat} {A : AL} {bt hb p : Nat} (hx : tX n T (tE n T p)) (hw : wd n T p ≤ 10) (h0 : wd n T p = 0 → bt = 0) (h6 : wd n T p = 6 → A 0 2 < 4) (h7 : 7 ≤ wd n T p → A 0 1 < 4) : (oBd n T A bt hb p).1 = 1 ∧ (oBd n T A bt hb p).2.1 = tS n T (tE n T p) := by
  have n1 : ∀ lo hi, nmC n T (tE n T p) lo hi = 1 := fun lo hi => nmC_1 hx
  have y1 : wyC n T (tE n T p) = 1 := ci_y hx
  unfold oBd
  by_cases w0 : wd n T p = 0
  · rw [if_pos w0]
    unfold oBl
    rw [if_neg (fun w => w (h0 w0)), n1, if_pos (by decide)]
    exact ⟨rfl, rfl⟩
  rw [if_neg w0]
  by_cases w4 : wd n T p ≤ 4
  · rw [if_pos w4]
    unfold oOm
    rw [n1, if_pos (by decide)]
    exact ⟨rfl, rfl⟩
  rw [if_neg w4]
  by_cases w5 : wd n T p = 5
  · rw [if_pos w5]
    unfold oGu
    rw [n1, if_pos (by decide)]
    exact ⟨rfl, rfl⟩
  rw [if_neg w5]
  by_cases w6 : wd n T p = 6
  · rw [if_pos w6]
    unfold oLk
    rw [if_neg (by have := h6 w6; omega), n1, if_pos (by decide)]
    exact ⟨rfl, rfl⟩
  rw [if_neg w6, if_pos hw]
  unfold oTr
  rw [if_neg (by have := h7 (by omega); omega), y1, if_pos (by decide)]
  exact ⟨rfl, rfl⟩
theorem sM_b101B {zm z : MX} {c pl : Nat} (hc : 0 < c) (hc2 : c < 10) (h : FtM zm z c pl) (x1 y1 : Int32) (hy : y1 = 0 ∨ y1 = 1) (post : MX → Prop) (h1 : ∀ y, FtM zm y c pl → post y) : pX8_readLine_b101 post z x1 y1 := by
  unfold pX8_readLine_b101
  refine ⟨hy, fun z1 e1 => ?_⟩
  have f1 : FtM zm z1 c pl := by rw [e1]; exact h.wf _ (by omega) (by omega)
  refine sM_stepB hc hc2 f1.2 _ ?_
  rw [f1.2.1]
  exact ⟨fun w => absurd w (nI_nle hc (by omega)), fun _ => h1 z1 f1⟩
theorem sM_b82B {zm z : MX} {c pl : Nat} (hc : 0 < c) (hc2 : c < 10) (h : FtM zm z c pl) (x1 : Int32) (post : MX → Prop) (h1 : ∀ y, FtM zm y c pl → post y) : pX8_readLine_b82 post z x1 := by
  unfold pX8_readLine_b82 pX8_readLine_b96
  exact ⟨fun _ => sM_b101B hc hc2 h _ _ (Or.inr rfl) _ h1, fun _ => ⟨fun _ => sM_b101B hc hc2 h _ _ (Or.inl rfl) _ h1, fun _ => sM_b101B hc hc2 h _ _ (Or.inr rfl) _ h1⟩⟩
theorem sM_b64B {zm z : MX} {c pl : Nat} (hc : 0 < c) (hc2 : c < 10) (h : FtM zm z c pl) (x1 : Int32) (post : MX → Prop) (h1 : ∀ y, FtM zm y c pl → post y) : pX8_readLine_b64 post z x1 := by
  unfold pX8_readLine_b64
  exact ⟨fun _ => sM_b82B hc hc2 h _ _ h1, fun _ => ⟨fun _ => sM_b82B hc hc2 h _ _ h1, fun _ => sM_fails1 (h.z hc hc2) _ _ (sM_b82B hc hc2 h _ _ h1)⟩⟩
theorem rho_w : ∀ w, w < 11 → (wRho w = 10 ↔ w = 6) ∧ (wRho w = 8 ↔ w = 0) ∧ (4 ≤ wRho w ∧ wRho w ≤ 7 ↔ 7 ≤ w) ∧ wRho w < 11 ∧ (1 ≤ w → w ≤ 4 → wRho w = w - 1) ∧ (7 ≤ w → wRho w = w - 7 + 4) ∧ (w = 5 → wRho w = 9) := by decide
set_option maxHeartbeats 4000000 in
theorem sM_line {zm y : MX} {n : Nat} {T : Nat → Nat} (hT : TpM zm n T) (hC : CstR zm) {A : AL} {bt hb p : Nat} (hp : p ≤ n) (hA : DOK A hb) (hbt : bt < 2) (hD : DfM zm y A bt hb) (hK : TkL y n T p) (post : MX → Prop) (h : bdM zm n T (oLn n T A bt hb p) post) : pX8_readLine y post := by
  have hK0 := hK
  have hD0 := hD
  obtain ⟨nx, e17, e19, e20, e21, e22⟩ := hK
  obtain ⟨d0, d1, d2, d3, d4, d5, d6, d7, d8, d9, d10⟩ := hD
  have wl := wd_le n T p
  have q0 := tE_b (T := T) hp
  have lE : oLn n T A bt hb p = oSm n T (oBd n T A bt hb p) := rfl
  have lF : (oBd n T A bt hb p).1 ≠ 0 → oLn n T A bt hb p = oBd n T A bt hb p := fun w => by rw [lE]; unfold oSm; rw [if_pos w]
  unfold pX8_readLine
  refine sM_name (hT.N d0) (hC.M d0) hp e19 e20 e21 (tK_lt n T p) _ ?_
  by_cases w10 : wd n T p ≤ 10
  case neg =>
    have ob : oBd n T A bt hb p = (2, tS n T p, A, bt, hb, p) := by unfold oBd; rw [if_neg (by omega), if_neg (by omega), if_neg (by omega), if_neg (by omega), if_neg w10]
    rw [lF (by rw [ob]; show (2 : Nat) ≠ 0; decide), ob] at h
    refine s_iN y (lo := 0) (hi := 10) (by decide) (by decide) ?_ ⟨fun w => absurd rfl w, fun _ => sM_fails0 e17 _ _ (fun y1 f1 g1 g2 go => h.2.2 (by show (2 : Nat) ≠ 0; decide) y1 ⟨d0.tr (NM_T f1), g1, by rw [g2]; exact e20⟩)⟩
    unfold wcM
    by_cases c : wd n T p < 13
    · rw [if_pos c, (rho_b _ c).2 (by omega)]
      exact Or.inr (nI_lt (a := 10) (b := wd n T p) (by omega) (by omega))
    · rw [if_neg c]; exact Or.inl (by decide)
  obtain ⟨r1, r2, r3, r4, r5, r6, r7⟩ := rho_w (wd n T p) (by omega)
  have ew : wcM (wd n T p) = nI (wRho (wd n T p)) := if_pos (by omega)
  rw [ew]
  refine s_iY y (lo := 0) (hi := 10) (by decide) (by decide) (nI_pos' (by omega)) (nI_le (a := wRho (wd n T p)) (b := 10) (by omega) (by decide)) ⟨fun _ => ?_, fun w => absurd w (by decide)⟩
  -- broken ahead: too many, or told twice
  have pre5 : (wd n T p = 6 ∧ A 0 2 = 4 ∨ 7 ≤ wd n T p ∧ A 0 1 = 4) → pX8_readLine_b59 post y (nI (wRho (wd n T p))) := by
    intro w
    have ob : (oBd n T A bt hb p).1 = 5 ∧ (oBd n T A bt hb p).2.1 = tS n T p := by
      unfold oBd
      rcases w with ⟨w1, w2⟩ | ⟨w1, w2⟩
      · rw [if_neg (by omega), if_neg (by omega), if_neg (by omega), if_pos w1]
        unfold oLk
        rw [if_pos (by omega)]
        exact ⟨rfl, rfl⟩
      · rw [if_neg (by omega), if_neg (by omega), if_neg (by omega), if_neg (by omega), if_pos w10]
        unfold oTr
        rw [if_pos (by omega)]
        exact ⟨rfl, rfl⟩
    rw [lF (by rw [ob.1]; decide)] at h
    unfold pX8_readLine_b59
    refine sM_fails0 e17 _ _ (fun y1 f1 g1 g2 go => ?_)
    have F1 : FtM zm y1 5 (tS n T p) := ⟨d0.tr (NM_T f1), g1, by rw [g2]; exact e20⟩
    exact sM_b64B (by decide) (by decide) F1 _ _ (fun y2 f2 => h.2.2 (by rw [ob.1]; decide) y2 (by rw [ob.1, ob.2]; exact f2))
  -- the body and its semicolon
  have main : (wd n T p = 0 → bt = 0) → (wd n T p = 6 → A 0 2 < 4) → (7 ≤ wd n T p → A 0 1 < 4) → ∀ bt2, bt2 = (if wd n T p = 0 then 1 else bt) → pX8_readLine_b101 post y (nI (wRho (wd n T p))) (nI bt2) := by
    intro c0 c6 c7 bt2 hbt2
    unfold pX8_readLine_b101
    have b2 : bt2 < 2 := by rw [hbt2]; by_cases c : wd n T p = 0 <;> simp [c] <;> omega
    refine ⟨?_, fun y1 e1 => ?_⟩
    · have : bt2 = 0 ∨ bt2 = 1 := by omega
      rcases this with e | e
      · exact Or.inl (by rw [e]; rfl)
      · exact Or.inr (by rw [e]; rfl)
    have K1 : TkL y1 n T p := hK0.w (fun k k1 k2 => by rw [e1, mw_k _ _ (by omega)])
    have n1 : NM zm y1 := by rw [e1]; exact NM_wf d0 _ (by omega) (by omega)
    have D1 : DfM zm y1 A bt2 hb := by
      refine ⟨n1, ?_, ?_, ?_, ?_, ?_, ?_, ?_, ?_, ?_, ?_⟩
      · rw [e1, mw_k _ _ (by decide)]; exact d1
      · rw [e1, mw_k _ _ (by decide)]; exact d2
      · rw [e1, mw_k _ _ (by decide)]; exact d3
      · rw [e1, mw_s]
      · rw [e1, mw_k _ _ (by decide)]; exact d5
      · rw [e1, mw_k _ _ (by decide)]; exact d6
      · rw [e1, mw_n _ _ _ (by decide)]; exact d7
      · rw [e1, mw_n _ _ _ (by decide)]; exact d8
      · rw [e1, mw_n _ _ _ (by decide)]; exact d9
      · rw [e1, mw_n _ _ _ (by decide)]; exact d10
    refine sM_adv (hT.N n1) hp K1 _ (fun y2 f2 t2 => ?_)
    rcases t2 with t2 | ⟨tx, tb⟩
    case inr =>
      have ob := oBd_x (A := A) (bt := bt) (hb := hb) tx w10 c0 c6 c7
      rw [lF (by rw [ob.1]; decide)] at h
      rw [tb.1]
      refine ⟨fun w => absurd w (by decide), fun _ => h.2.2 (by rw [ob.1]; decide) y2 (by rw [ob.1, ob.2]; exact ⟨n1.tr (NM_T f2), tb⟩)⟩
    rw [t2.2.1]
    refine ⟨fun _ => ?_, fun w => absurd (by decide) w⟩
    have D2 := D1.T f2
    -- behind the body
    have aft : bdM zm n T (oBd n T A bt hb p) (fun z118 => ((¬ (z118.1 0 17) = 0 → pX8_readLine_b141 post z118) ∧ ((z118.1 0 17) = 0 → (((z118.1 0 21) = (3 : Int32) → pX8_readLine_b141 post z118) ∧ (¬ (z118.1 0 21) = (3 : Int32) → pX8_fails z118 (2 : Int32) (fun (z138 : MX) => pX8_readLine_b141 post z138)))))) := by
      unfold pX8_readLine_b141
      refine ⟨fun o0 y3 D3 t3 => ?_, fun o0 tx y3 F3 => ?_, fun o0 y3 F3 => ?_⟩
      · have okr := (oBd_ok hA hbt hp o0).2.2.2
        have t30 := t3
        obtain ⟨nx3, g17, g19, g20, g21, g22⟩ := t3
        have kl := tK_lt n T (oBd n T A bt hb p).2.2.2.2.2
        show (¬ (y3.1 0 17) = 0 → pX8_step y3 _) ∧ ((y3.1 0 17) = 0 → (((y3.1 0 21) = (3 : Int32) → pX8_step y3 _) ∧ (¬ (y3.1 0 21) = (3 : Int32) → pX8_fails y3 2 _)))
        rw [g17, g21, show (3 : Int32) = nI 3 from rfl, nI_eq (by omega) (by omega)]
        refine ⟨fun w => absurd rfl w, fun _ => ⟨fun k3 => ?_, fun k3 => sM_fails0 g17 _ _ (fun y4 f4 u1 u2 uo => ?_)⟩⟩
        · have sm : smC n T (oBd n T A bt hb p).2.2.2.2.2 = 0 := by unfold smC; rw [ci_n nx3, if_neg (fun w => w k3)]
          have e2 : oLn n T A bt hb p = (0, 0, (oBd n T A bt hb p).2.2.1, (oBd n T A bt hb p).2.2.2.1, (oBd n T A bt hb p).2.2.2.2.1, tE n T (oBd n T A bt hb p).2.2.2.2.2) := by
            rw [lE]; unfold oSm; rw [if_neg (fun w => w o0), if_neg (fun w => w sm)]
          rw [e2] at h
          refine sM_adv (hT.N D3.1) okr t30 _ (fun y4 f4 t4 => ?_)
          rcases t4 with t4 | ⟨tx, tb⟩
          · exact h.1 rfl y4 (D3.T f4) t4
          · exact h.2.1 rfl tx y4 ⟨D3.1.tr (NM_T f4), tb⟩
        · have sm : smC n T (oBd n T A bt hb p).2.2.2.2.2 = 2 := by unfold smC; rw [ci_n nx3, if_pos k3]
          have e2 : oLn n T A bt hb p = (2, tS n T (oBd n T A bt hb p).2.2.2.2.2, (oBd n T A bt hb p).2.2) := by
            rw [lE]; unfold oSm; rw [if_neg (fun w => w o0), sm, if_pos (by decide)]
          rw [e2] at h
          have F4 : FtM zm y4 2 (tS n T (oBd n T A bt hb p).2.2.2.2.2) := ⟨D3.1.tr (NM_T f4), u1, by rw [u2]; exact g20⟩
          exact sM_stepB (by decide) (by decide) F4.2 _ (h.2.2 (by show (2 : Nat) ≠ 0; decide) y4 F4)
      · have sm : smC n T (oBd n T A bt hb p).2.2.2.2.2 = 1 := ci_y tx
        have e2 : oLn n T A bt hb p = (1, tS n T (oBd n T A bt hb p).2.2.2.2.2, (oBd n T A bt hb p).2.2) := by
          rw [lE]; unfold oSm; rw [if_neg (fun w => w o0), sm, if_pos (by decide)]
        rw [e2] at h
        exact ⟨fun _ => sM_stepB (by decide) (by decide) F3.2 _ (h.2.2 (by show (1 : Nat) ≠ 0; decide) y3 F3), fun w => absurd w (F3.z (by decide) (by decide))⟩
      · rw [lF o0] at h
        have cl : (oBd n T A bt hb p).1 < 10 := by
          have a1 := nmC_le n T (tE n T p) 2 8
          have a2 := nmC_le n T (tE n T p) 0 7
          have a3 := nmC_le n T (tE n T (tE n T p)) 0 7
          have a4 := nmC_le n T (tE n T (tE n T p)) 0 9
          have a5 := nmC_le n T (tE n T (tE n T (tE n T p))) 0 9
          have a6 : wyC n T (tE n T p) ≤ 2 := by
            unfold wyC
            by_cases x : tX n T (tE n T p)
            · rw [ci_y x]; decide
            · rw [ci_n x]
              by_cases x2 : wd n T (tE n T p) < 11 ∨ wd n T (tE n T p) = 13
              · rw [if_pos x2]; decide
              · rw [if_neg x2]; decide
          unfold oBd oBl oOm oGu oLk oTr
          repeat' split
          all_goals (first | (show _ < 10; omega) | (simp; omega) | simp)
        exact ⟨fun _ => sM_stepB (by omega) cl F3.2 _ (h.2.2 o0 y3 F3), fun w => absurd w (F3.z (by omega) cl)⟩
    by_cases w0 : wd n T p = 0
    · have b0 := c0 w0
      have e1 : bt2 = 1 := by rw [hbt2, if_pos w0]
      have eo : oBd n T A bt hb p = oBl n T A 0 hb p (tE n T p) := by unfold oBd; rw [if_pos w0, b0]
      rw [eo] at aft
      rw [r2.mpr w0]
      rw [e1] at D2
      exact sM_blocksT hT q0.2 hA D2 t2 _ aft
    have e1 : bt2 = bt := by rw [hbt2, if_neg w0]
    rw [e1] at D2
    by_cases w4 : wd n T p ≤ 4
    · have eo : oBd n T A bt hb p = oOm n T A bt hb p (tE n T p) (wd n T p) := by unfold oBd; rw [if_neg w0, if_pos w4]
      rw [eo] at aft
      rw [r5 (by omega) w4]
      exact sM_omenT hT q0.2 hA D2 t2 (by omega) w4 _ aft
    by_cases w5 : wd n T p = 5
    · have eo : oBd n T A bt hb p = oGu n T A bt hb p (tE n T p) := by unfold oBd; rw [if_neg w0, if_neg w4, if_pos w5]
      rw [eo] at aft
      rw [r7 w5]
      exact sM_guardT hT q0.2 hA D2 t2 _ aft
    by_cases w6 : wd n T p = 6
    · have eo : oBd n T A bt hb p = oLk n T A bt hb p (tE n T p) := by unfold oBd; rw [if_neg w0, if_neg w4, if_neg w5, if_pos w6]
      rw [eo] at aft
      rw [r1.mpr w6]
      exact sM_lockT hT q0.2 hA (c6 w6) D2 t2 _ aft
    · have eo : oBd n T A bt hb p = oTr n T A bt hb p (tE n T p) (wd n T p - 7) := by unfold oBd; rw [if_neg w0, if_neg w4, if_neg w5, if_neg w6, if_pos w10]
      rw [eo] at aft
      rw [r6 (by omega)]
      exact sM_trainT hT hC (by omega) q0.2 hA (c7 (by omega)) D2 t2 _ aft
  -- told twice?
  have m64 : (wd n T p = 6 → A 0 2 < 4) → (7 ≤ wd n T p → A 0 1 < 4) → pX8_readLine_b64 post y (nI (wRho (wd n T p))) := by
    intro c6 c7
    unfold pX8_readLine_b64 pX8_readLine_b82 pX8_readLine_b96
    rw [d4, show (8 : Int32) = nI 8 from rfl, nI_eq (by omega) (by omega), show (0 : Int32) = nI 0 from rfl, nI_eq (by omega) (by omega)]
    refine ⟨fun n8 => ⟨fun b1 => ?_, fun b0 => ⟨fun _ => ?_, fun w => absurd w n8⟩⟩, fun y8 => ⟨fun b0 => ⟨fun w => absurd b0 w, fun _ => ⟨fun w => absurd y8 w, fun _ => ?_⟩⟩, fun b1 => ?_⟩⟩
    · have w0 : wd n T p ≠ 0 := fun w => n8 (r2.mpr w)
      have b11 : bt = 1 := by omega
      exact main (fun w => absurd w w0) c6 c7 1 (by rw [if_neg w0, b11])
    · have w0 : wd n T p ≠ 0 := fun w => n8 (r2.mpr w)
      exact main (fun w => absurd w w0) c6 c7 0 (by rw [if_neg w0, b0])
    · have w0 := r2.mp y8
      exact main (fun _ => b0) c6 c7 1 (by rw [if_pos w0])
    · have w0 := r2.mp y8
      have ob : oBd n T A bt hb p = (4, tS n T p, A, bt, hb, p) := by
        unfold oBd
        rw [if_pos w0]
        unfold oBl
        rw [if_pos b1]
      rw [lF (by rw [ob]; show (4 : Nat) ≠ 0; decide), ob] at h
      refine sM_fails0 e17 _ _ (fun y1 f1 g1 g2 go => ?_)
      have F1 : FtM zm y1 4 (tS n T p) := ⟨d0.tr (NM_T f1), g1, by rw [g2]; exact e20⟩
      have hh : ∀ y2, FtM zm y2 4 (tS n T p) → post y2 := fun y2 f2 => h.2.2 (by show (4 : Nat) ≠ 0; decide) y2 f2
      exact ⟨fun _ => sM_b101B (by decide) (by decide) F1 _ _ (Or.inr rfl) _ hh, fun _ => ⟨fun _ => sM_b101B (by decide) (by decide) F1 _ _ (Or.inl rfl) _ hh, fun _ => sM_b101B (by decide) (by decide) F1 _ _ (Or.inr rfl) _ hh⟩⟩
  have a02 := hA.2.2.2.1
  have a01 := hA.2.2.1
  -- too many?
  have m37 : (wd n T p = 6 → A 0 2 < 4) → pX8_readLine_b37 post y (nI (wRho (wd n T p))) := by
    intro c6
    unfold pX8_readLine_b37
    by_cases w7 : 7 ≤ wd n T p
    · have rr := r3.mpr w7
      refine s_iY y (lo := 4) (hi := 7) (by decide) (by decide) (nI_le (a := 4) (b := wRho (wd n T p)) rr.1 (by omega)) (nI_le (a := wRho (wd n T p)) (b := 7) rr.2 (by decide)) ⟨fun w => absurd w (by decide), fun _ => ?_⟩
      rw [d2, show (4 : Int32) = nI 4 from rfl, nI_eq (by omega) (by omega)]
      exact ⟨fun w => m64 c6 (fun _ => by omega), fun w => pre5 (Or.inr ⟨w7, w⟩)⟩
    · refine s_iN y (lo := 4) (hi := 7) (by decide) (by decide) ?_ ⟨fun _ => m64 c6 (fun w => absurd w w7), fun w => absurd rfl w⟩
      by_cases c : wRho (wd n T p) < 4
      · exact Or.inl (nI_lt (b := 4) c (by decide))
      · exact Or.inr (nI_lt (a := 7) (b := wRho (wd n T p)) (by omega) (by omega))
  rw [d3, show (10 : Int32) = nI 10 from rfl, nI_eq (by omega) (by omega), show (4 : Int32) = nI 4 from rfl, nI_eq (by omega) (by omega)]
  exact ⟨fun w => m37 (fun w6 => absurd (r1.mpr w6) w), fun w => ⟨fun l4 => pre5 (Or.inl ⟨r1.mp w, l4⟩), fun l4 => m37 (fun _ => by omega)⟩⟩
