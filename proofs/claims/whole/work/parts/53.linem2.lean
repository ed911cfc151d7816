/-! a line of the text: the reference, locks and trains -/
theorem FtM.wf {zm y : MX} {c pl : Nat} (h : FtM zm y c pl) {k : Nat} (v : Int32) (h1 : 5 ≤ k) (h2 : k ≤ 13) : FtM zm (mw y 0 k v) c pl := ⟨NM_wf h.1 v h1 h2, h.2.w (fun j q1 q2 => by rw [mw_k _ _ (by omega)])⟩
theorem FtM.wc {zm y : MX} {c pl : Nat} (h : FtM zm y c pl) {a : Nat} (k : Nat) (v : Int32) (h1 : a = 4 ∨ a = 5) : FtM zm (mw y a k v) c pl := ⟨NM_wc h.1 k v h1, h.2.w (fun j q1 q2 => by rw [mw_n _ _ _ (by omega)])⟩
theorem FtM.z {zm y : MX} {c pl : Nat} (h : FtM zm y c pl) (hc : 0 < c) (hc2 : c < 10) : ¬ y.1 0 17 = 0 := by rw [h.2.1]; exact nI_n0 hc hc2
theorem two_m (m : Nat) : (2 : Int32) * nI m = nI (2 * m) := by rw [show (2 : Int32) = nI 2 from rfl, pk_mul]
theorem sM_b34B {zm z : MX} {c pl m : Nat} (hc : 0 < c) (hc2 : c < 10) (hm : m < 4) (h : FtM zm z c pl) (h10 : z.1 0 10 = nI m) (x : Int32) (post : MX → Prop) (h1 : ∀ y, FtM zm y c pl → post y) : pX8_readLock_b34 post z x := by
  unfold pX8_readLock_b34
  rw [h10, two_m, nI_clamp (by omega)]
  refine ⟨vp_in_nI (by omega) (by decide), fun y1 e1 => ?_⟩
  have f1 : FtM zm y1 c pl := by rw [e1]; exact h.wc _ _ (Or.inr rfl)
  have g10 : y1.1 0 10 = nI m := by rw [e1, mw_n _ _ _ (by decide)]; exact h10
  refine sM_blkB hc hc2 f1 _ _ (fun y2 _ f2 => ?_)
  rw [g10, two_m, nI_1, nI_clamp (by omega)]
  refine ⟨vp_in_nI (by omega) (by decide), fun y3 e3 y4 e4 => h1 y4 ?_⟩
  rw [e4, e3]
  exact (f2.wc _ _ (Or.inr rfl)).wf _ (by omega) (by omega)
set_option maxHeartbeats 2000000 in
theorem sM_lockT {zm y : MX} {n : Nat} {T : Nat → Nat} (hT : TpM zm n T) {A : AL} {bt hb p q : Nat} (hq : q ≤ n) (hA : DOK A hb) (hl : A 0 2 < 4) (hD : DfM zm y A bt hb) (hK : TkL y n T q) (post : MX → Prop) (h : bdM zm n T (oLk n T A bt hb p q) post) : pX8_readMore y (nI 10) post := by
  unfold bdM oLk at h
  rw [if_neg (by omega)] at h
  unfold pX8_readMore
  refine ⟨fun _ => ⟨fun _ => ⟨fun _ => ⟨fun _ => ?_, fun w => absurd w (by decide)⟩, fun w => absurd w (by decide)⟩, fun w => absurd (by decide) w⟩, fun w => absurd (by decide) w⟩
  obtain ⟨d0, d1, d2, d3, d4, d5, d6, d7, d8, d9, d10⟩ := hD
  have hb8 := hA.2.2.2.2.2.2.2.2.1
  have z02 : ∀ v, ¬ 0 / 2 ^ v % 2 = 1 := fun v => by rw [Nat.zero_div]; decide
  unfold pX8_readLock
  refine sM_blk (S := 0) (hT.N d0) hq hK d6 hb8 (by decide) _ (fun z0 b0 y1 f1 g13 t1 => ?_) (fun z0 b0 => absurd b0 (z02 _)) (fun z0 y1 f1 b1 => ?_)
  case refine_2 =>
    rw [if_pos z0] at h
    have F1 : FtM zm y1 (nmC n T q 0 7) (tS n T q) := ⟨d0.tr f1.N, b1⟩
    have nl := nmC_le n T q 0 7
    have g10 : y1.1 0 10 = nI (A 0 2) := by rw [f1.2 10 (by decide) (by omega)]; exact d3
    exact ⟨fun _ => sM_b34B (by omega) (by omega) hl F1 g10 _ _ (fun y2 f2 => h.2.2 z0 y2 f2), fun w => absurd w (F1.z (by omega) (by omega))⟩
  rw [if_neg (fun w => w z0)] at h
  obtain ⟨_, _, _, v7⟩ := nmC_0 z0
  have q1 := tE_b (T := T) hq
  have n1 : NM zm y1 := d0.tr f1.N
  have g10 : y1.1 0 10 = nI (A 0 2) := by rw [f1.2 10 (by decide) (by omega)]; exact d3
  rcases t1 with t1 | ⟨tx, tb⟩
  case inr =>
    have e1 := nmC_1 (lo := 0) (hi := 7) tx
    rw [e1, if_pos (by decide)] at h
    have F1 : FtM zm y1 1 (tS n T (tE n T q)) := ⟨n1, tb⟩
    exact ⟨fun _ => sM_b34B (by decide) (by decide) hl F1 g10 _ _ (fun y2 f2 => h.2.2 (by show (1 : Nat) ≠ 0; decide) y2 f2), fun w => absurd w (F1.z (by decide) (by decide))⟩
  have t10 := t1
  obtain ⟨nx, t17, t19, t20, t21, t22⟩ := t1
  have kl := tK_lt n T (tE n T q)
  rw [t17, t21, show (2 : Int32) = nI 2 from rfl, nI_eq (by omega) (by omega)]
  -- the second end
  have go : ¬ (tK n T (tE n T q) = 2 ∧ tV n T (tE n T q) = tV n T q) → pX8_readLock_b34 post y1 (nI (tV n T q)) := by
    intro ne
    unfold pX8_readLock_b34
    rw [g10, two_m, nI_clamp (by omega)]
    refine ⟨vp_in_nI (by omega) (by decide), fun y2 e2 => ?_⟩
    have n2 : NM zm y2 := by rw [e2]; exact NM_wc n1 _ _ (Or.inr rfl)
    have c0 : y2.1 0 = y1.1 0 := by rw [e2, mw_n _ _ _ (by decide)]
    have t2 : TkL y2 n T (tE n T q) := t10.w (fun k _ _ => by rw [c0])
    have x10 : y2.1 0 10 = nI (A 0 2) := by rw [c0]; exact g10
    refine sM_blk (S := 0) (hb := max hb (tV n T q + 1)) (hT.N n2) q1.2 t2 (by rw [c0]; exact g13) (by omega) (by decide) _ (fun w0 b0 y3 f3 h13 t3 => ?_) (fun z0 b0 => absurd b0 (z02 _)) (fun w0 y3 f3 b3 => ?_)
    · rw [if_neg (fun w => w w0)] at h
      obtain ⟨_, k2, _, w7⟩ := nmC_0 w0
      have ne2 : ¬ tV n T (tE n T q) = tV n T q := fun w => ne ⟨k2, w⟩
      rw [if_neg ne2] at h
      rw [x10, two_m, nI_1, nI_clamp (by omega)]
      refine ⟨vp_in_nI (by omega) (by decide), fun y4 e4 y5 e5 => ?_⟩
      have x4 : y4.1 0 10 = nI (A 0 2) := by rw [e4, mw_n _ _ _ (by decide), f3.2 10 (by decide) (by omega)]; exact x10
      rw [x4, nI_1] at e5
      have tk : TkO y5 n T (tE n T (tE n T q)) := t3.w (fun k q1 q2 => by rw [e5, mw_k _ _ (by omega), e4, mw_n _ _ _ (by decide)])
      have nm : NM zm y5 := by rw [e5, e4]; exact NM_wf (NM_wc (n2.tr f3.N) _ _ (Or.inr rfl)) _ (by omega) (by omega)
      rcases tk with tk | ⟨tx, tb⟩
      · have fl : ∀ k, k ≠ 10 → k ≠ 13 → k < 17 → y5.1 0 k = y.1 0 k := fun k h1 h2 h3 => by rw [e5, mw_k _ _ h1, e4, mw_n _ _ _ (by decide), f3.2 k h2 (by omega), c0, f1.2 k h2 (by omega)]
        have r4 : y5.1 4 = y.1 4 := by rw [e5, mw_n _ _ _ (by decide), e4, mw_n _ _ _ (by decide), f3.1 4 (by decide), e2, mw_n _ _ _ (by decide), f1.1 4 (by decide)]
        refine h.1 rfl y5 ?_ tk
        show DfM zm y5 (lkA A (tV n T q) (tV n T (tE n T q))) bt (max (max hb (tV n T q + 1)) (tV n T (tE n T q) + 1))
        unfold DfM
        rw [lkA_02, lkA_0 A _ _ (by decide), lkA_0 A _ _ (by decide), lkA_0 A _ _ (by decide), lkA_n A _ _ (a := 1) (by decide) (by decide), lkA_n A _ _ (a := 3) (by decide) (by decide)]
        refine ⟨nm, ?_, ?_, ?_, ?_, ?_, ?_, ?_, ?_, ?_, ?_⟩
        · rw [fl 8 (by decide) (by decide) (by decide)]; exact d1
        · rw [fl 9 (by decide) (by decide) (by decide)]; exact d2
        · rw [e5, mw_s]
        · rw [fl 11 (by decide) (by decide) (by decide)]; exact d4
        · rw [fl 12 (by decide) (by decide) (by decide)]; exact d5
        · rw [e5, mw_k _ _ (by decide), e4, mw_n _ _ _ (by decide)]; exact h13
        · rw [r4]; exact d7
        · rw [r4]; exact d8
        · intro j hj
          rw [e5, mw_n _ _ _ (by decide), e4, mw_g, f3.1 5 (by decide), e2, mw_g, f1.1 5 (by decide), lkA_2]
          by_cases c1 : j = 2 * A 0 2 + 1
          · rw [if_pos ⟨rfl, c1⟩, if_pos c1]
          · rw [if_neg (fun w => c1 w.2), if_neg c1]
            by_cases c2 : j = 2 * A 0 2
            · rw [if_pos ⟨rfl, c2⟩, if_pos c2]
            · rw [if_neg (fun w => c2 w.2), if_neg c2]
              exact d9 j (by omega)
        · rw [r4]; exact d10
      · exact h.2.1 rfl tx y5 ⟨nm, tb⟩
    · rw [if_pos w0] at h
      rw [x10, two_m, nI_1, nI_clamp (by omega)]
      refine ⟨vp_in_nI (by omega) (by decide), fun y4 e4 y5 e5 => h.2.2 w0 y5 ?_⟩
      have F3 : FtM zm y3 (nmC n T (tE n T q) 0 7) (tS n T (tE n T q)) := ⟨n2.tr f3.N, b3⟩
      rw [e5, e4]
      exact (F3.wc _ _ (Or.inr rfl)).wf _ (by omega) (by omega)
  refine ⟨fun w => absurd rfl w, fun _ => ⟨fun k2 => go (fun w => k2 w.1), fun k2 => ?_⟩⟩
  have vl := tV_lt hT.2.1 q1.2 nx k2
  rw [t22 k2, nI_eq (by omega) (by omega)]
  refine ⟨fun ne => go (fun w => ne w.2), fun ev => sM_fails0 t17 _ _ (fun y2 f2 g1 g2 go => ?_)⟩
  have w0 := nmC_4 (lo := 0) (hi := 7) nx k2 (by omega) (by omega)
  rw [if_neg (fun w => w w0), if_pos ev] at h
  have F2 : FtM zm y2 3 (tS n T (tE n T q)) := ⟨n1.tr (NM_T f2), g1, by rw [g2]; exact t20⟩
  exact sM_b34B (by decide) (by decide) hl F2 (by rw [f2.2 10 (by omega)]; exact g10) _ _ (fun y3 f3 => h.2.2 (by show (3 : Nat) ≠ 0; decide) y3 f3)
theorem CstR.M {zm y : MX} (h : CstR zm) (hN : NM zm y) : CstR y := h.N hN
theorem rho_b : ∀ w, w < 13 → (wRho w < 11 ↔ w < 11) ∧ (11 ≤ w → wRho w = w) := by decide
set_option maxHeartbeats 4000000 in
theorem sM_trainT {zm y : MX} {n : Nat} {T : Nat → Nat} (hT : TpM zm n T) (hC : CstR zm) {A : AL} {bt hb p q f : Nat} (hf : f < 4) (hq : q ≤ n) (hA : DOK A hb) (hl : A 0 1 < 4) (hD : DfM zm y A bt hb) (hK : TkL y n T q) (post : MX → Prop) (h : bdM zm n T (oTr n T A bt hb p q f) post) : pX8_readMore y (nI (f + 4)) post := by
  unfold bdM oTr at h
  rw [if_neg (by omega)] at h
  have hD0 := hD
  have hK0 := hK
  obtain ⟨d0, d1, d2, d3, d4, d5, d6, d7, d8, d9, d10⟩ := hD
  have hb8 := hA.2.2.2.2.2.2.2.2.1
  have z02 : ∀ v, ¬ 0 / 2 ^ v % 2 = 1 := fun v => by rw [Nat.zero_div]; decide
  have i9 : (9 : Int32) + nI (A 0 1) = nI (9 + A 0 1) := nI_add 9 _
  have i13 : (13 : Int32) + nI (A 0 1) = nI (13 + A 0 1) := nI_add 13 _
  have i17 : (17 : Int32) + nI (A 0 1) = nI (17 + A 0 1) := nI_add 17 _
  have i21 : (21 : Int32) + nI (A 0 1) = nI (21 + A 0 1) := nI_add 21 _
  -- the rest, broken
  have B4 : ∀ (c pl : Nat) (z79 z96 : MX) (r96 : Int32), FtM zm z96 c pl → z79.1 0 9 = nI (A 0 1) → (∀ y, FtM zm y c pl → post y) → (vp_in ((21 : Int32) + (z79.1 0 9)) 25 ∧ ∀ z99 : MX, z99 = mw z96 4 (Int32.toNatClampNeg ((21 : Int32) + (z79.1 0 9))) r96 → ∀ z107 : MX, z107 = mw z99 0 9 ((z99.1 0 9) + (1 : Int32)) → post z107) := by
    intro c pl z79 z96 r96 F e9 hp
    rw [e9, i21, nI_clamp (by omega)]
    refine ⟨vp_in_nI (by omega) (by decide), fun z99 e z107 e2 => hp z107 ?_⟩
    rw [e2, e]
    exact (F.wc _ _ (Or.inl rfl)).wf _ (by omega) (by omega)
  have B3 : ∀ (c pl : Nat) (z59 z76 : MX) (r76 : Int32), 0 < c → c < 10 → FtM zm z76 c pl → z59.1 0 9 = nI (A 0 1) → z76.1 0 9 = nI (A 0 1) → (∀ y, FtM zm y c pl → post y) → (vp_in ((17 : Int32) + (z59.1 0 9)) 25 ∧ ∀ z79 : MX, z79 = mw z76 4 (Int32.toNatClampNeg ((17 : Int32) + (z59.1 0 9))) r76 → pX8_other z79 (0 : Int32) (9 : Int32) (0 : Int32) (fun (r96 : Int32) (z96 : MX) => vp_in ((21 : Int32) + (z79.1 0 9)) 25 ∧ ∀ z99 : MX, z99 = mw z96 4 (Int32.toNatClampNeg ((21 : Int32) + (z79.1 0 9))) r96 → ∀ z107 : MX, z107 = mw z99 0 9 ((z99.1 0 9) + (1 : Int32)) → post z107)) := by
    intro c pl z59 z76 r76 hc hc2 F e9 e9b hp
    rw [e9, i17, nI_clamp (by omega)]
    refine ⟨vp_in_nI (by omega) (by decide), fun z79 e => ?_⟩
    have F2 : FtM zm z79 c pl := by rw [e]; exact F.wc _ _ (Or.inl rfl)
    have x9 : z79.1 0 9 = nI (A 0 1) := by rw [e, mw_n _ _ _ (by decide)]; exact e9b
    exact sM_otherB hc hc2 F2.2 _ _ _ _ (B4 c pl z79 z79 _ F2 x9 hp)
  have B2 : ∀ (c pl : Nat) (z31 : MX) (x2 : Int32), 0 < c → c < 10 → FtM zm z31 c pl → z31.1 0 9 = nI (A 0 1) → (∀ y, FtM zm y c pl → post y) → (vp_in ((9 : Int32) + (z31.1 0 9)) 25 ∧ ∀ z46 : MX, z46 = mw z31 4 (Int32.toNatClampNeg ((9 : Int32) + (z31.1 0 9))) (nI f) → vp_in ((13 : Int32) + (z46.1 0 9)) 25 ∧ ∀ z59 : MX, z59 = mw z46 4 (Int32.toNatClampNeg ((13 : Int32) + (z46.1 0 9))) x2 → pX8_other z59 (0 : Int32) (9 : Int32) (0 : Int32) (fun (r76 : Int32) (z76 : MX) => vp_in ((17 : Int32) + (z59.1 0 9)) 25 ∧ ∀ z79 : MX, z79 = mw z76 4 (Int32.toNatClampNeg ((17 : Int32) + (z59.1 0 9))) r76 → pX8_other z79 (0 : Int32) (9 : Int32) (0 : Int32) (fun (r96 : Int32) (z96 : MX) => vp_in ((21 : Int32) + (z79.1 0 9)) 25 ∧ ∀ z99 : MX, z99 = mw z96 4 (Int32.toNatClampNeg ((21 : Int32) + (z79.1 0 9))) r96 → ∀ z107 : MX, z107 = mw z99 0 9 ((z99.1 0 9) + (1 : Int32)) → post z107))) := by
    intro c pl z31 x2 hc hc2 F e9 hp
    rw [e9, i9, nI_clamp (by omega)]
    refine ⟨vp_in_nI (by omega) (by decide), fun z46 e => ?_⟩
    have x9 : z46.1 0 9 = nI (A 0 1) := by rw [e, mw_n _ _ _ (by decide)]; exact e9
    rw [x9, i13, nI_clamp (by omega)]
    refine ⟨vp_in_nI (by omega) (by decide), fun z59 e2 => ?_⟩
    have F2 : FtM zm z59 c pl := by rw [e2, e]; exact (F.wc _ _ (Or.inl rfl)).wc _ _ (Or.inl rfl)
    have x9b : z59.1 0 9 = nI (A 0 1) := by rw [e2, mw_n _ _ _ (by decide)]; exact x9
    exact sM_otherB hc hc2 F2.2 _ _ _ _ (B3 c pl z59 z59 _ hc hc2 F2 x9b x9b hp)
  unfold pX8_readMore
  refine ⟨fun _ => ⟨fun w => absurd w (nI_nlt (a := 7) (b := f + 4) (by omega) (by omega)), fun _ => ?_⟩, fun w => absurd (nI_lt (a := 3) (b := f + 4) (by omega) (by omega)) w⟩
  rw [show nI (f + 4) - (4 : Int32) = nI f by rw [show (4 : Int32) = nI 4 from rfl, pk_sub (by omega)]; congr 1]
  unfold pX8_readTrain
  obtain ⟨nx, e17, e19, e20, e21, e22⟩ := hK
  refine sM_name (hT.N d0) (hC.M d0) hq e19 e20 e21 (tK_lt n T q) _ (fun x2 hx2 => ?_)
  rw [e17]
  refine ⟨fun w => absurd rfl w, fun _ => ?_⟩
  have wl := wd_le n T q
  unfold pX8_readTrain_b30
  have q1 := tE_b (T := T) hq
  have q2 := tE_b (T := T) q1.2
  by_cases wy : 11 ≤ wd n T q ∧ wd n T q < 13
  case neg =>
    have wc : wyC n T q = 2 := by unfold wyC; rw [ci_n nx, if_pos (by omega)]
    rw [wc, if_pos (by decide)] at h
    refine s_iN y (lo := 0) (hi := 1) (by decide) (by decide) (Or.inl ?_) ⟨fun w => absurd rfl w, fun _ => sM_fails0 e17 _ _ (fun y1 f1 g1 g2 go => ?_)⟩
    · rw [hx2]
      unfold wcM
      by_cases c : wd n T q < 13
      · have := (rho_b _ c).1
        rw [if_pos c, show (11 : Int32) = nI 11 from rfl]
        exact pk_sneg (by decide) (by omega)
      · rw [if_neg c]; decide
    · have F1 : FtM zm y1 2 (tS n T q) := ⟨d0.tr (NM_T f1), g1, by rw [g2]; exact e20⟩
      exact sM_stepB (by decide) (by decide) F1.2 _ (B2 2 _ y1 x2 (by decide) (by decide) F1 (by rw [f1.2 9 (by omega)]; exact d2) (fun y2 f2 => h.2.2 (by show (2 : Nat) ≠ 0; decide) y2 f2))
  have wc : wyC n T q = 0 := by unfold wyC; rw [ci_n nx, if_neg (by omega)]
  rw [wc, if_neg (fun w => w rfl)] at h
  have ex : x2 = nI (wd n T q - 11) := by
    rw [hx2]
    unfold wcM
    rw [if_pos wy.2, (rho_b _ wy.2).2 wy.1, show (11 : Int32) = nI 11 from rfl, pk_sub (by omega)]
  rw [ex]
  refine s_iY y (lo := 0) (hi := 1) (by decide) (by decide) (nI_pos' (by omega)) (nI_le (a := wd n T q - 11) (b := 1) (by omega) (by decide)) ⟨fun _ => ?_, fun w => absurd w (by decide)⟩
  refine sM_adv (hT.N d0) hq hK0 _ (fun y1 f1 t1 => ?_)
  have n1 : NM zm y1 := d0.tr (NM_T f1)
  have g9 : y1.1 0 9 = nI (A 0 1) := by rw [f1.2 9 (by omega)]; exact d2
  rcases t1 with t1 | ⟨tx, tb⟩
  case inr =>
    have e1 := nmC_1 (lo := 0) (hi := 9) tx
    rw [e1, if_pos (by decide)] at h
    exact B2 1 _ y1 _ (by decide) (by decide) ⟨n1, tb⟩ g9 (fun y2 f2 => h.2.2 (by show (1 : Nat) ≠ 0; decide) y2 f2)
  rw [g9, i9, nI_clamp (by omega)]
  refine ⟨vp_in_nI (by omega) (by decide), fun y2 e2 => ?_⟩
  have g92 : y2.1 0 9 = nI (A 0 1) := by rw [e2, mw_n _ _ _ (by decide)]; exact g9
  rw [g92, i13, nI_clamp (by omega)]
  refine ⟨vp_in_nI (by omega) (by decide), fun y3 e3 => ?_⟩
  have c3 : y3.1 0 = y1.1 0 := by rw [e3, mw_n _ _ _ (by decide), e2, mw_n _ _ _ (by decide)]
  have n3 : NM zm y3 := by rw [e3, e2]; exact NM_wc (NM_wc n1 _ _ (Or.inl rfl)) _ _ (Or.inl rfl)
  have t3 : TkL y3 n T (tE n T q) := t1.w (fun k _ _ => by rw [c3])
  have g93 : y3.1 0 9 = nI (A 0 1) := by rw [c3]; exact g9
  refine sM_othr (lo := 0) (hi := 9) (S := 0) (hT.N n3) q1.2 t3 (by decide) (by decide) (by decide) _ (fun z0 b0 y4 f4 t4 => ?_) (fun z0 b0 => absurd b0 (z02 _)) (fun z0 y4 f4 b4 => ?_)
  case refine_2 =>
    rw [if_pos z0] at h
    have nl := nmC_le n T (tE n T q) 0 9
    exact B3 _ _ y3 y4 _ (by omega) (by omega) ⟨n3.tr (NM_T f4), b4⟩ g93 (by rw [f4.2 9 (by omega)]; exact g93) (fun y5 f5 => h.2.2 z0 y5 f5)
  rw [if_neg (fun w => w z0)] at h
  have n4 : NM zm y4 := n3.tr (NM_T f4)
  have g94 : y4.1 0 9 = nI (A 0 1) := by rw [f4.2 9 (by omega)]; exact g93
  rcases t4 with t4 | ⟨tx, tb⟩
  case inr =>
    have e1 := nmC_1 (lo := 0) (hi := 9) tx
    rw [e1, if_pos (by decide)] at h
    exact B3 1 _ y3 y4 _ (by decide) (by decide) ⟨n4, tb⟩ g93 g94 (fun y5 f5 => h.2.2 (by show (1 : Nat) ≠ 0; decide) y5 f5)
  rw [g93, i17, nI_clamp (by omega)]
  refine ⟨vp_in_nI (by omega) (by decide), fun y5 e5 => ?_⟩
  have c5 : y5.1 0 = y4.1 0 := by rw [e5, mw_n _ _ _ (by decide)]
  have n5 : NM zm y5 := by rw [e5]; exact NM_wc n4 _ _ (Or.inl rfl)
  have t5 : TkL y5 n T (tE n T (tE n T q)) := t4.w (fun k _ _ => by rw [c5])
  have g95 : y5.1 0 9 = nI (A 0 1) := by rw [c5]; exact g94
  refine sM_othr (lo := 0) (hi := 9) (S := 0) (hT.N n5) q2.2 t5 (by decide) (by decide) (by decide) _ (fun w0 b0 y6 f6 t6 => ?_) (fun z0 b0 => absurd b0 (z02 _)) (fun w0 y6 f6 b6 => ?_)
  case refine_2 =>
    rw [if_pos w0] at h
    exact B4 _ _ y5 y6 _ ⟨n5.tr (NM_T f6), b6⟩ g95 (fun y7 f7 => h.2.2 w0 y7 f7)
  rw [if_neg (fun w => w w0)] at h
  rw [g95, i21, nI_clamp (by omega)]
  refine ⟨vp_in_nI (by omega) (by decide), fun y7 e7 y8 e8 => ?_⟩
  have n6 : NM zm y6 := n5.tr (NM_T f6)
  have g97 : y7.1 0 9 = nI (A 0 1) := by rw [e7, mw_n _ _ _ (by decide), f6.2 9 (by omega)]; exact g95
  rw [g97, nI_1] at e8
  have nm : NM zm y8 := by rw [e8, e7]; exact NM_wf (NM_wc n6 _ _ (Or.inl rfl)) _ (by omega) (by omega)
  have tk : TkO y8 n T (tE n T (tE n T (tE n T q))) := t6.w (fun k k1 k2 => by rw [e8, mw_k _ _ (by omega), e7, mw_n _ _ _ (by decide)])
  rcases tk with tk | ⟨tx, tb⟩
  case inr => exact h.2.1 rfl tx y8 ⟨nm, tb⟩
  refine h.1 rfl y8 ?_ tk
  have fl : ∀ k, k ≠ 9 → k < 17 → y8.1 0 k = y.1 0 k := fun k h1 h3 => by rw [e8, mw_k _ _ h1, e7, mw_n _ _ _ (by decide), f6.2 k (by omega), c5, f4.2 k (by omega), c3, f1.2 k (by omega)]
  have r5 : y8.1 5 = y.1 5 := by rw [e8, mw_n _ _ _ (by decide), e7, mw_n _ _ _ (by decide), f6.1 5 (by decide), e5, mw_n _ _ _ (by decide), f4.1 5 (by decide), e3, mw_n _ _ _ (by decide), e2, mw_n _ _ _ (by decide), f1.1 5 (by decide)]
  have r4 : ∀ k, y8.1 4 k = if k = 21 + A 0 1 then nI (tV n T (tE n T (tE n T q))) else if k = 17 + A 0 1 then nI (tV n T (tE n T q)) else if k = 13 + A 0 1 then nI (wd n T q - 11) else if k = 9 + A 0 1 then nI f else y.1 4 k := by
    intro k
    rw [e8, mw_n _ _ _ (by decide), e7, mw_g, f6.1 4 (by decide), e5, mw_g, f4.1 4 (by decide), e3, mw_g, e2, mw_g, f1.1 4 (by decide)]
    simp
  show DfM zm y8 (trA A f (wd n T q - 11) (tV n T (tE n T q)) (tV n T (tE n T (tE n T q)))) bt hb
  unfold DfM
  rw [trA_01, trA_0 A _ _ _ _ (by decide), trA_0 A _ _ _ _ (by decide), trA_0 A _ _ _ _ (by decide), trA_n A _ _ _ _ (a := 1) (by decide) (by decide), trA_n A _ _ _ _ (a := 2) (by decide) (by decide)]
  refine ⟨nm, ?_, ?_, ?_, ?_, ?_, ?_, ?_, ?_, ?_, ?_⟩
  · rw [fl 8 (by decide) (by decide)]; exact d1
  · rw [e8, mw_s]
  · rw [fl 10 (by decide) (by decide)]; exact d3
  · rw [fl 11 (by decide) (by decide)]; exact d4
  · rw [fl 12 (by decide) (by decide)]; exact d5
  · rw [fl 13 (by decide) (by decide)]; exact d6
  · intro b hb
    rw [r4, if_neg (by omega), if_neg (by omega), if_neg (by omega), if_neg (by omega)]; exact d7 b hb
  · rw [r4, if_neg (by omega), if_neg (by omega), if_neg (by omega), if_neg (by omega)]; exact d8
  · rw [r5]; exact d9
  · intro t x ht hx
    rw [r4, trA_3 A _ _ _ _ hx]
    by_cases c : t = A 0 1
    · rw [if_pos c]
      have : x = 0 ∨ x = 1 ∨ x = 2 ∨ x = 3 := by omega
      rcases this with e | e | e | e <;> subst e
      · rw [if_neg (by omega), if_neg (by omega), if_neg (by omega), if_pos (by omega)]; rfl
      · rw [if_neg (by omega), if_neg (by omega), if_pos (by omega)]; rfl
      · rw [if_neg (by omega), if_pos (by omega)]; rfl
      · rw [if_pos (by omega)]; rfl
    · rw [if_neg c, if_neg (by omega), if_neg (by omega), if_neg (by omega), if_neg (by omega)]
      exact d10 t x (by omega) hx
