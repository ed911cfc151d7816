/-! a line of the text: the reference -/
def TkL (y : MX) (n : Nat) (T : Nat → Nat) (p : Nat) : Prop := ¬ tX n T p ∧ y.1 0 17 = 0 ∧ y.1 0 19 = nI (tE n T p) ∧ y.1 0 20 = nI (tS n T p) ∧ y.1 0 21 = nI (tK n T p) ∧ (tK n T p = 2 → y.1 0 22 = nI (tV n T p))
def BkM (y : MX) (c pl : Nat) : Prop := y.1 0 17 = nI c ∧ y.1 0 18 = nI pl
/-- the token at r is there, or is none, which was found -/
def TkO (y : MX) (n : Nat) (T : Nat → Nat) (r : Nat) : Prop := TkL y n T r ∨ (tX n T r ∧ BkM y 1 (tS n T r))
theorem sM_adv {y : MX} {n : Nat} {T : Nat → Nat} (hT : TpM y n T) {p : Nat} (hp : p ≤ n) (h : TkL y n T p) (post : MX → Prop) (h1 : ∀ y1, frT y y1 → TkO y1 n T (tE n T p) → post y1) : pX8_step y post := by
  have be := tE_b (T := T) hp
  refine sM_step1 hT be.2 h.2.1 h.2.2.1 _ (fun x y1 k e17 => ?_) (fun x y1 k e17 e18 => ?_)
  · exact h1 y1 k.1 (Or.inl ⟨x, e17, k.2.1, k.2.2.1, k.2.2.2.1, fun w => k.2.2.2.2 w x⟩)
  · exact h1 y1 k.1 (Or.inr ⟨x, e17, e18⟩)
theorem sM_stepB {y : MX} {c pl : Nat} (hc : 0 < c) (hc2 : c < 10) (h : BkM y c pl) (post : MX → Prop) (h1 : post y) : pX8_step y post := sM_step0 hc (by omega) h.1 post h1
theorem nI_n0 {c : Nat} (hc : 0 < c) (hc2 : c < 10) : ¬ nI c = 0 := nI_ne0 hc (by omega)
theorem sM_otherB {y : MX} {c pl : Nat} (hc : 0 < c) (hc2 : c < 10) (h : BkM y c pl) (lo hi some : Int32) (post : Int32 → MX → Prop) (h1 : post lo y) : pX8_other y lo hi some post := by
  have nz : ¬ y.1 0 17 = 0 := by rw [h.1]; exact nI_n0 hc hc2
  unfold pX8_other pX8_other_b20 pX8_other_b47 pX8_other_b71 pX8_other_b86
  exact ⟨fun _ => ⟨fun _ => ⟨fun _ => ⟨fun _ => sM_stepB hc hc2 h _ h1, fun w => absurd w nz⟩, fun w => absurd w nz⟩, fun w => absurd w nz⟩, fun w => absurd w nz⟩
set_option maxHeartbeats 1000000 in
theorem sM_othr {y : MX} {n : Nat} {T : Nat → Nat} (hT : TpM y n T) {q : Nat} (hq : q ≤ n) (h : TkL y n T q) {lo hi S : Nat} (hlo : lo < 100) (hhi : hi < 31) (hS : S < 2 ^ 31) (post : Int32 → MX → Prop) (h1 : nmC n T q lo hi = 0 → ¬ S / 2 ^ tV n T q % 2 = 1 → ∀ y1, frT y y1 → TkO y1 n T (tE n T q) → post (nI (tV n T q)) y1) (h4 : nmC n T q lo hi = 0 → S / 2 ^ tV n T q % 2 = 1 → ∀ y1, frT y y1 → BkM y1 4 (tS n T q) → post (nI lo) y1) (h0 : nmC n T q lo hi ≠ 0 → ∀ y1, frT y y1 → BkM y1 (nmC n T q lo hi) (tS n T q) → post (nI lo) y1) : pX8_other y (nI lo) (nI hi) (nI S) post := by
  obtain ⟨nx, e17, e19, e20, e21, e22⟩ := h
  have kl := tK_lt n T q
  -- broken from now on
  have brk : ∀ c y1, 0 < c → c < 10 → BkM y1 c (tS n T q) → frT y y1 → (∀ y1, frT y y1 → BkM y1 c (tS n T q) → post (nI lo) y1) → pX8_other_b71 post y1 (nI lo) := by
    intro c y1 hc hc2 b1 f1 hp
    have nz : ¬ y1.1 0 17 = 0 := by rw [b1.1]; exact nI_n0 hc hc2
    unfold pX8_other_b71 pX8_other_b86
    exact ⟨fun _ => sM_stepB hc hc2 b1 _ (hp y1 f1 b1), fun w => absurd w nz⟩
  have brk2 : ∀ c y1, 0 < c → c < 10 → BkM y1 c (tS n T q) → frT y y1 → (∀ y1, frT y y1 → BkM y1 c (tS n T q) → post (nI lo) y1) → pX8_other_b47 post y1 (nI lo) (nI S) := by
    intro c y1 hc hc2 b1 f1 hp
    have nz : ¬ y1.1 0 17 = 0 := by rw [b1.1]; exact nI_n0 hc hc2
    unfold pX8_other_b47
    exact ⟨fun _ => brk c y1 hc hc2 b1 f1 hp, fun w => absurd w nz⟩
  unfold pX8_other
  rw [e17, e21, show (2 : Int32) = nI 2 from rfl, nI_eq (by omega) (by omega)]
  refine ⟨fun w => absurd rfl w, fun _ => ⟨fun k2 => ?_, fun k2 => ?_⟩⟩
  · have vl := tV_lt hT.2.1 hq nx k2
    have f22 := e22 k2
    unfold pX8_other_b20
    rw [e17, f22]
    refine ⟨fun w => absurd rfl w, fun _ => ?_⟩
    by_cases c : lo ≤ tV n T q ∧ tV n T q ≤ hi
    · have z0 := nmC_4 nx k2 c.1 c.2
      refine s_iY y (lo := nI lo) (hi := nI hi) rfl rfl (nI_le c.1 (by omega)) (nI_le c.2 (by omega)) ⟨fun _ => ?_, fun w => absurd w (by decide)⟩
      unfold pX8_other_b47
      rw [e17, f22, bitN (by omega) (by omega)]
      have b2 : S / 2 ^ tV n T q % 2 < 2 := Nat.mod_lt _ (by decide)
      refine ⟨fun w => absurd rfl w, fun _ => ⟨fun d => ?_, fun d => sM_fails0 e17 _ _ (fun y1 f1 g1 g2 go => ?_)⟩⟩
      · unfold pX8_other_b71 pX8_other_b86
        rw [e17, f22]
        refine ⟨fun w => absurd rfl w, fun _ => sM_adv hT hq ⟨nx, e17, e19, e20, e21, e22⟩ _ (fun y1 f1 t1 => h1 z0 (fun w => d (by rw [w]; rfl)) y1 f1 t1)⟩
      · have d1 : S / 2 ^ tV n T q % 2 = 1 := (n2_1 b2).mp d
        exact brk 4 y1 (by decide) (by decide) ⟨g1, by rw [g2]; exact e20⟩ f1 (fun y2 f2 b2 => h4 z0 d1 y2 f2 b2)
    · have z3 := nmC_3 (lo := lo) (hi := hi) nx k2 (by omega)
      rw [z3] at h0
      refine s_iN y (lo := nI lo) (hi := nI hi) rfl rfl ?_ ⟨fun w => absurd rfl w, fun _ => sM_fails0 e17 _ _ (fun y1 f1 g1 g2 go => ?_)⟩
      · by_cases e : tV n T q < lo
        · exact Or.inl (nI_lt e (by omega))
        · exact Or.inr (nI_lt (by omega) (by omega))
      · exact brk2 3 y1 (by decide) (by decide) ⟨g1, by rw [g2]; exact e20⟩ f1 (fun y2 f2 b2 => h0 (by decide) y2 f2 b2)
  · have z2 := nmC_2 (lo := lo) (hi := hi) nx k2
    rw [z2] at h0
    refine sM_fails0 e17 _ _ (fun y1 f1 g1 g2 go => ?_)
    have b1 : BkM y1 2 (tS n T q) := ⟨g1, by rw [g2]; exact e20⟩
    have nz : ¬ y1.1 0 17 = 0 := by rw [b1.1]; exact nI_n0 (by decide) (by decide)
    unfold pX8_other_b20
    exact ⟨fun _ => brk2 2 y1 (by decide) (by decide) b1 f1 (fun y2 f2 b2 => h0 (by decide) y2 f2 b2), fun w => absurd w nz⟩
/-- the draft -/
def DfM (zm y : MX) (A : AL) (bt hb : Nat) : Prop := NM zm y ∧ y.1 0 8 = nI (A 0 0) ∧ y.1 0 9 = nI (A 0 1) ∧ y.1 0 10 = nI (A 0 2) ∧ y.1 0 11 = nI bt ∧ y.1 0 12 = nI (obN (A 1) 8) ∧ y.1 0 13 = nI hb - 1 ∧ (∀ b, b < 8 → y.1 4 b = nI (A 1 b)) ∧ y.1 4 8 = nI (A 0 3) ∧ (∀ j, j < 2 * A 0 2 → y.1 5 j = nI (A 2 j)) ∧ (∀ t w, t < A 0 1 → w < 4 → y.1 4 (9 + 4 * w + t) = nI (A 3 (4 * t + w)))
def FtM (zm y : MX) (c pl : Nat) : Prop := NM zm y ∧ BkM y c pl
theorem NM_T {y y1 : MX} (h : frT y y1) : NM y y1 := ⟨fun c hc => h.1 c (by omega), fun k hk => h.2 k (by omega), fun k _ => by rw [h.1 1 (by decide)]⟩
theorem DfM.T {zm y y1 : MX} {A : AL} {bt hb : Nat} (h : DfM zm y A bt hb) (hf : frT y y1) : DfM zm y1 A bt hb := by
  obtain ⟨h0, h⟩ := h
  refine ⟨h0.tr (NM_T hf), ?_⟩
  rw [hf.2 8 (by omega), hf.2 9 (by omega), hf.2 10 (by omega), hf.2 11 (by omega), hf.2 12 (by omega), hf.2 13 (by omega), hf.1 4 (by decide), hf.1 5 (by decide)]
  exact h
theorem TpM.N {z z1 : MX} {n : Nat} {T : Nat → Nat} (h : TpM z n T) (hN : NM z z1) : TpM z1 n T := h.e (hN.2.1 15 (by omega)) (hN.1 6 (by omega))
/-- writing in the draft -/
theorem NM_wf {z z1 : MX} (h : NM z z1) {k : Nat} (v : Int32) (h1 : 5 ≤ k) (h2 : k ≤ 13) : NM z (mw z1 0 k v) := ⟨fun c hc => by rw [mw_n _ _ _ (by omega)]; exact h.1 c hc, fun q hq => by rw [mw_k _ _ (by omega)]; exact h.2.1 q hq, fun q hq => by rw [mw_n _ _ _ (by decide)]; exact h.2.2 q hq⟩
theorem NM_wc {z z1 : MX} (h : NM z z1) {c : Nat} (k : Nat) (v : Int32) (h1 : c = 4 ∨ c = 5) : NM z (mw z1 c k v) := ⟨fun a ha => by rw [mw_n _ _ _ (by omega)]; exact h.1 a ha, fun q hq => by rw [mw_n _ _ _ (by omega)]; exact h.2.1 q hq, fun q hq => by rw [mw_n _ _ _ (by omega)]; exact h.2.2 q hq⟩
theorem TkL.w {y : MX} {n : Nat} {T : Nat → Nat} {p : Nat} (h : TkL y n T p) {y1 : MX} (e : ∀ k, 17 ≤ k → k ≤ 22 → y1.1 0 k = y.1 0 k) : TkL y1 n T p := by
  unfold TkL
  rw [e 17 (by omega) (by omega), e 19 (by omega) (by omega), e 20 (by omega) (by omega), e 21 (by omega) (by omega), e 22 (by omega) (by omega)]
  exact h
theorem TkO.w {y : MX} {n : Nat} {T : Nat → Nat} {p : Nat} (h : TkO y n T p) {y1 : MX} (e : ∀ k, 17 ≤ k → k ≤ 22 → y1.1 0 k = y.1 0 k) : TkO y1 n T p := by
  rcases h with h | ⟨h1, h2, h3⟩
  · exact Or.inl (h.w e)
  · exact Or.inr ⟨h1, by rw [e 17 (by omega) (by omega)]; exact h2, by rw [e 18 (by omega) (by omega)]; exact h3⟩
theorem BkM.w {y : MX} {c pl : Nat} (h : BkM y c pl) {y1 : MX} (e : ∀ k, 17 ≤ k → k ≤ 22 → y1.1 0 k = y.1 0 k) : BkM y1 c pl := ⟨by rw [e 17 (by omega) (by omega)]; exact h.1, by rw [e 18 (by omega) (by omega)]; exact h.2⟩
theorem hb_le {v hb : Nat} (hv : v < 1000) (hh : hb < 1000) : nI v ≤ nI hb - 1 ↔ v + 1 ≤ hb := by
  by_cases c : hb = 0
  · rw [c, show nI 0 - 1 = (-1 : Int32) by decide]
    exact ⟨fun w => absurd (Int32.le_trans (nI_pos' (n := v) (by omega)) w) (by decide), fun w => absurd w (by omega)⟩
  · rw [nI_m1 (by omega), nI_leI (by omega) (by omega)]
    omega
/-- but for the token and the highest block -/
def frB (z z1 : MX) : Prop := (∀ c, c ≠ 0 → z1.1 c = z.1 c) ∧ (∀ k, k ≠ 13 → k < 17 ∨ 22 < k → z1.1 0 k = z.1 0 k)
theorem frB.N {y y1 : MX} (h : frB y y1) : NM y y1 := ⟨fun c hc => h.1 c (by omega), fun k hk => h.2 k (by omega) (by omega), fun k _ => by rw [h.1 1 (by decide)]⟩
theorem frB_of {y y1 : MX} (h : frT y y1) (v : Int32) : frB y (mw y1 0 13 v) := ⟨fun c hc => by rw [mw_n _ _ _ hc]; exact h.1 c hc, fun k h1 h2 => by rw [mw_k _ _ h1]; exact h.2 k h2⟩
theorem sM_blkB {zm y : MX} {c pl : Nat} (hc : 0 < c) (hc2 : c < 10) (h : FtM zm y c pl) (some : Int32) (post : Int32 → MX → Prop) (h1 : ∀ y1, frB y y1 → FtM zm y1 c pl → post 0 y1) : pX8_blockHere y some post := by
  unfold pX8_blockHere pX8_blockHere_b26
  have fin : ∀ v y1, y1 = mw y 0 13 v → post 0 y1 := fun v y1 e1 => h1 y1 (by rw [e1]; exact frB_of (frT.rf y) v) ⟨by rw [e1]; exact NM_wf h.1 _ (by omega) (by omega), h.2.w (fun k q1 q2 => by rw [e1, mw_k _ _ (by omega)])⟩
  exact sM_otherB hc hc2 h.2 _ _ _ _ ⟨fun _ y1 e1 => fin _ y1 e1, fun _ y1 e1 => fin _ y1 e1⟩
theorem sM_blk {y : MX} {n : Nat} {T : Nat → Nat} (hT : TpM y n T) {q : Nat} (hq : q ≤ n) (h : TkL y n T q) {hb S : Nat} (h13 : y.1 0 13 = nI hb - 1) (hhb : hb ≤ 8) (hS : S < 2 ^ 31) (post : Int32 → MX → Prop) (h1 : nmC n T q 0 7 = 0 → ¬ S / 2 ^ tV n T q % 2 = 1 → ∀ y1, frB y y1 → y1.1 0 13 = nI (max hb (tV n T q + 1)) - 1 → TkO y1 n T (tE n T q) → post (nI (tV n T q)) y1) (h4 : nmC n T q 0 7 = 0 → S / 2 ^ tV n T q % 2 = 1 → ∀ y1, frB y y1 → BkM y1 4 (tS n T q) → post 0 y1) (h0 : nmC n T q 0 7 ≠ 0 → ∀ y1, frB y y1 → BkM y1 (nmC n T q 0 7) (tS n T q) → post 0 y1) : pX8_blockHere y (nI S) post := by
  unfold pX8_blockHere pX8_blockHere_b26
  refine sM_othr (lo := 0) (hi := 7) hT hq h (by decide) (by decide) hS _ (fun z0 d y1 f1 t1 => ?_) (fun z0 d y1 f1 b1 => ?_) (fun z0 y1 f1 b1 => ?_)
  · obtain ⟨_, _, _, v7⟩ := nmC_0 z0
    rw [f1.2 13 (by omega), h13, hb_le (by omega) (by omega)]
    refine ⟨fun c y2 e2 => ?_, fun c y2 e2 => ?_⟩
    · refine h1 z0 d y2 (by rw [e2]; exact frB_of f1 _) ?_ (t1.w (fun k q1 q2 => by rw [e2, mw_k _ _ (by omega)]))
      rw [e2, mw_s, show max hb (tV n T q + 1) = hb by omega]
    · refine h1 z0 d y2 (by rw [e2]; exact frB_of f1 _) ?_ (t1.w (fun k q1 q2 => by rw [e2, mw_k _ _ (by omega)]))
      rw [e2, mw_s, show max hb (tV n T q + 1) = tV n T q + 1 by omega, nI_pred]
  · have fin : ∀ v y2, y2 = mw y1 0 13 v → post 0 y2 := fun v y2 e2 => h4 z0 d y2 (by rw [e2]; exact frB_of f1 _) (b1.w (fun k q1 q2 => by rw [e2, mw_k _ _ (by omega)]))
    exact ⟨fun _ y2 e2 => fin _ y2 e2, fun _ y2 e2 => fin _ y2 e2⟩
  · have fin : ∀ v y2, y2 = mw y1 0 13 v → post 0 y2 := fun v y2 e2 => h0 z0 y2 (by rw [e2]; exact frB_of f1 _) (b1.w (fun k q1 q2 => by rw [e2, mw_k _ _ (by omega)]))
    exact ⟨fun _ y2 e2 => fin _ y2 e2, fun _ y2 e2 => fin _ y2 e2⟩
/-- what takes a word's line up to its semicolon -/
def bdM (zm : MX) (n : Nat) (T : Nat → Nat) (o : Nat × Nat × PS) (post : MX → Prop) : Prop := (o.1 = 0 → ∀ y1, DfM zm y1 o.2.2.1 o.2.2.2.1 o.2.2.2.2.1 → TkL y1 n T o.2.2.2.2.2 → post y1) ∧ (o.1 = 0 → tX n T o.2.2.2.2.2 → ∀ y1, FtM zm y1 1 (tS n T o.2.2.2.2.2) → post y1) ∧ (o.1 ≠ 0 → ∀ y1, FtM zm y1 o.1 o.2.1 → post y1)
/-- no omen there: one more -/
theorem ob_bit (f : Nat → Nat) : ∀ k b, obN f k / 2 ^ b % 2 = 1 ↔ b < k ∧ f b ≠ 0 := by
  intro k
  induction k with
  | zero => intro b; show 0 / 2 ^ b % 2 = 1 ↔ _; rw [Nat.zero_div]; omega
  | succ k ih =>
    intro b
    rw [obN_s]
    by_cases c : f k = 0
    · rw [if_pos c, Nat.add_zero, ih b]
      constructor
      · intro w; exact ⟨by omega, w.2⟩
      · intro w
        refine ⟨?_, w.2⟩
        have : b ≠ k := fun e => w.2 (by rw [e]; exact c)
        omega
    · rw [if_neg c]
      have e : obN f k + 2 ^ k = obN f k ||| 2 ^ k := by
        have h1 := Nat.two_pow_add_eq_or_of_lt (obN_lt f k) 1
        rw [Nat.mul_one] at h1
        rw [Nat.add_comm, h1, Nat.or_comm]
      rw [e, orb, p2b, ih b]
      constructor
      · rintro (w | w)
        · exact ⟨by omega, w.2⟩
        · rw [w]; exact ⟨by omega, c⟩
      · intro w
        by_cases e : b = k
        · exact Or.inr e
        · exact Or.inl ⟨by omega, w.2⟩
theorem ob_put {f : Nat → Nat} {v w : Nat} (hv : v < 8) (hw : w ≠ 0) : obN f 8 ||| 2 ^ v = obN (fun b => if b = v then w else f b) 8 := by
  apply Nat.eq_of_testBit_eq
  intro i
  have h1 := orb (obN f 8) (2 ^ v) i
  have h2 := ob_bit f 8 i
  have h3 := ob_bit (fun b => if b = v then w else f b) 8 i
  have h4 := p2b v i
  rw [Bool.eq_iff_iff, ← tbit, ← tbit, h1, h2, h3, h4]
  by_cases e : i = v
  · simp [e, hv, hw]
  · simp [e]
set_option maxHeartbeats 1000000 in
theorem sM_omenT {zm y : MX} {n : Nat} {T : Nat → Nat} (hT : TpM zm n T) {A : AL} {bt hb p q w : Nat} (hq : q ≤ n) (hA : DOK A hb) (hD : DfM zm y A bt hb) (hK : TkL y n T q) (hw : 1 ≤ w) (hw4 : w ≤ 4) (post : MX → Prop) (h : bdM zm n T (oOm n T A bt hb p q w) post) : pX8_readMore y (nI (w - 1)) post := by
  unfold bdM oOm at h
  unfold pX8_readMore
  have hO : obN (A 1) 8 < 256 := obN_lt _ 8
  refine ⟨fun c => absurd c (nI_nlt (a := 3) (b := w - 1) (by omega) (by omega)), fun _ => ?_⟩
  obtain ⟨d0, d1, d2, d3, d4, d5, d6, d7, d8, d9, d10⟩ := hD
  rw [d5]
  have bad : ∀ (c pl : Nat) y1, frB y y1 → BkM y1 c pl → (∀ y2, FtM zm y2 c pl → post y2) → ∀ y2, y2 = mw y1 0 12 (y1.1 0 12 ||| ((1 : Int32) <<< ((0 : Int32) &&& 31))) → vp_in (0 : Int32) 25 ∧ ∀ y3, y3 = mw y2 4 (Int32.toNatClampNeg (0 : Int32)) (nI (w - 1) + 1) → post y3 := by
    intro c pl y1 f1 b1 hp y2 e2
    refine ⟨vp_in_nI (n := 0) (by decide) (by decide), fun y3 e3 => hp y3 ⟨?_, b1.w (fun k q1 q2 => by rw [e3, mw_n _ _ _ (by decide), e2, mw_k _ _ (by omega)])⟩⟩
    rw [e3, e2]
    exact NM_wc (NM_wf (d0.tr f1.N) _ (by omega) (by omega)) _ _ (Or.inl rfl)
  refine sM_blk (hT.N d0) hq hK d6 hA.2.2.2.2.2.2.2.2.1 (by omega) _ (fun z0 b0 y1 f1 g13 t1 => ?_) (fun z0 b0 y1 f1 b1 => ?_) (fun z0 y1 f1 b1 => ?_)
  · obtain ⟨_, _, _, v7⟩ := nmC_0 z0
    have a0 : A 1 (tV n T q) = 0 := Classical.byContradiction (fun w => b0 ((ob_bit (A 1) 8 _).mpr ⟨by omega, w⟩))
    rw [if_neg (fun w => w z0), if_neg (fun w => w a0)] at h
    intro y2 e2
    rw [f1.2 12 (by decide) (by omega), d5, shlN (by omega), fa_or, ob_put (f := A 1) (w := w) (by omega) (by omega)] at e2
    have eA : (fun b => if b = tV n T q then w else A 1 b) = Au A 1 (tV n T q) w 1 := by
      funext b
      rw [Au_g]
      by_cases e : b = tV n T q
      · rw [if_pos e, if_pos ⟨rfl, e⟩]
      · rw [if_neg e, if_neg (fun w => e w.2)]
    rw [eA] at e2
    rw [nI_clamp (by omega), nI_1, show w - 1 + 1 = w by omega]
    refine ⟨vp_in_nI (by omega) (by decide), fun y3 e3 => ?_⟩
    have tk : TkO y3 n T (tE n T q) := t1.w (fun k q1 q2 => by rw [e3, mw_n _ _ _ (by decide), e2, mw_k _ _ (by omega)])
    have nm : NM zm y3 := by rw [e3, e2]; exact NM_wc (NM_wf (d0.tr f1.N) _ (by omega) (by omega)) _ _ (Or.inl rfl)
    rcases tk with tk | ⟨tx, tb⟩
    · refine h.1 rfl y3 ⟨nm, ?_, ?_, ?_, ?_, ?_, ?_, ?_, ?_, ?_, ?_⟩ tk
      · rw [e3, mw_n _ _ _ (by decide), e2, mw_k _ _ (by decide), f1.2 8 (by decide) (by omega)]; exact d1
      · rw [e3, mw_n _ _ _ (by decide), e2, mw_k _ _ (by decide), f1.2 9 (by decide) (by omega)]; exact d2
      · rw [e3, mw_n _ _ _ (by decide), e2, mw_k _ _ (by decide), f1.2 10 (by decide) (by omega)]; exact d3
      · rw [e3, mw_n _ _ _ (by decide), e2, mw_k _ _ (by decide), f1.2 11 (by decide) (by omega)]; exact d4
      · rw [e3, mw_n _ _ _ (by decide), e2, mw_s]
      · rw [e3, mw_n _ _ _ (by decide), e2, mw_k _ _ (by decide)]; exact g13
      · intro b hb
        rw [e3, mw_g, e2, mw_n _ _ _ (by decide), f1.1 4 (by decide)]
        show _ = nI (Au A 1 (tV n T q) w 1 b)
        rw [Au_g]
        by_cases e : b = tV n T q
        · rw [if_pos ⟨rfl, e⟩, if_pos ⟨rfl, e⟩]
        · rw [if_neg (fun w => e w.2), if_neg (fun w => e w.2)]; exact d7 b hb
      · rw [e3, mw_k _ _ (by omega), e2, mw_n _ _ _ (by decide), f1.1 4 (by decide)]; exact d8
      · rw [e3, mw_n _ _ _ (by decide), e2, mw_n _ _ _ (by decide), f1.1 5 (by decide)]; exact d9
      · intro t x ht hx
        rw [e3, mw_k _ _ (by omega), e2, mw_n _ _ _ (by decide), f1.1 4 (by decide)]; exact d10 t x ht hx
    · exact h.2.1 rfl tx y3 ⟨nm, tb⟩
  · have a0 : A 1 (tV n T q) ≠ 0 := ((ob_bit (A 1) 8 _).mp b0).2
    rw [if_neg (fun w => w z0), if_pos a0] at h
    exact bad _ _ y1 f1 b1 (fun y2 f2 => h.2.2 (by show (4 : Nat) ≠ 0; decide) y2 f2)
  · rw [if_pos z0] at h
    exact bad _ _ y1 f1 b1 (fun y2 f2 => h.2.2 z0 y2 f2)
theorem sM_blocksT {zm y : MX} {n : Nat} {T : Nat → Nat} (hT : TpM zm n T) {A : AL} {hb p q : Nat} (hq : q ≤ n) (hA : DOK A hb) (hD : DfM zm y A 1 hb) (hK : TkL y n T q) (post : MX → Prop) (h : bdM zm n T (oBl n T A 0 hb p q) post) : pX8_readMore y (nI 8) post := by
  unfold bdM oBl at h
  unfold pX8_readMore
  rw [if_neg (fun w => w rfl)] at h
  refine ⟨fun _ => ⟨fun _ => ⟨fun w => absurd rfl w, fun _ => ?_⟩, fun w => absurd (by decide) w⟩, fun w => absurd (by decide) w⟩
  obtain ⟨d0, d1, d2, d3, d4, d5, d6, d7, d8, d9, d10⟩ := hD
  have z02 : ∀ v, ¬ 0 / 2 ^ v % 2 = 1 := fun v => by rw [Nat.zero_div]; decide
  refine sM_othr (lo := 2) (hi := 8) (S := 0) (hT.N d0) hq hK (by decide) (by decide) (by decide) _ (fun z0 b0 y1 f1 t1 y2 e2 => ?_) (fun z0 b0 => absurd b0 (z02 _)) (fun z0 y1 f1 b1 y2 e2 => ?_)
  · rw [if_neg (fun w => w z0)] at h
    have tk : TkO y2 n T (tE n T q) := t1.w (fun k q1 q2 => by rw [e2, mw_k _ _ (by omega)])
    have nm : NM zm y2 := by rw [e2]; exact NM_wf (d0.tr (NM_T f1)) _ (by omega) (by omega)
    rcases tk with tk | ⟨tx, tb⟩
    · refine h.1 rfl y2 ⟨nm, ?_, ?_, ?_, ?_, ?_, ?_, ?_, ?_, ?_, ?_⟩ tk
      · rw [e2, mw_s]; rfl
      · rw [e2, mw_k _ _ (by decide), f1.2 9 (by omega)]; exact d2
      · rw [e2, mw_k _ _ (by decide), f1.2 10 (by omega)]; exact d3
      · rw [e2, mw_k _ _ (by decide), f1.2 11 (by omega)]; exact d4
      · rw [e2, mw_k _ _ (by decide), f1.2 12 (by omega), d5]
        rfl
      · rw [e2, mw_k _ _ (by decide), f1.2 13 (by omega)]; exact d6
      · rw [e2, mw_n _ _ _ (by decide), f1.1 4 (by decide)]; exact d7
      · rw [e2, mw_n _ _ _ (by decide), f1.1 4 (by decide)]; exact d8
      · rw [e2, mw_n _ _ _ (by decide), f1.1 5 (by decide)]; exact d9
      · rw [e2, mw_n _ _ _ (by decide), f1.1 4 (by decide)]; exact d10
    · exact h.2.1 rfl tx y2 ⟨nm, tb⟩
  · rw [if_pos z0] at h
    refine h.2.2 z0 y2 ⟨?_, b1.w (fun k q1 q2 => by rw [e2, mw_k _ _ (by omega)])⟩
    rw [e2]; exact NM_wf (d0.tr (NM_T f1)) _ (by omega) (by omega)
set_option maxHeartbeats 1000000 in
theorem sM_guardT {zm y : MX} {n : Nat} {T : Nat → Nat} (hT : TpM zm n T) {A : AL} {bt hb p q : Nat} (hq : q ≤ n) (hA : DOK A hb) (hD : DfM zm y A bt hb) (hK : TkL y n T q) (post : MX → Prop) (h : bdM zm n T (oGu n T A bt hb p q) post) : pX8_readMore y (nI 9) post := by
  unfold bdM oGu at h
  unfold pX8_readMore
  have g256 := hA.2.2.2.2.1
  refine ⟨fun _ => ⟨fun _ => ⟨fun _ => ⟨fun w => absurd rfl w, fun _ => ⟨vp_in_nI (n := 8) (by decide) (by decide), vp_in_nI (n := 8) (by decide) (by decide), ?_⟩⟩, fun w => absurd w (by decide)⟩, fun w => absurd (by decide) w⟩, fun w => absurd (by decide) w⟩
  obtain ⟨d0, d1, d2, d3, d4, d5, d6, d7, d8, d9, d10⟩ := hD
  rw [show Int32.toNatClampNeg (8 : Int32) = 8 from rfl, d8]
  have bad : ∀ (c pl : Nat) y1, frB y y1 → BkM y1 c pl → (∀ y2, FtM zm y2 c pl → post y2) → ∀ v y2, y2 = mw y1 4 8 v → post y2 := by
    intro c pl y1 f1 b1 hp v y2 e2
    refine hp y2 ⟨?_, b1.w (fun k q1 q2 => by rw [e2, mw_n _ _ _ (by decide)])⟩
    rw [e2]
    exact NM_wc (d0.tr f1.N) _ _ (Or.inl rfl)
  refine sM_blk (hT.N d0) hq hK d6 hA.2.2.2.2.2.2.2.2.1 (by omega) _ (fun z0 b0 y1 f1 g13 t1 => ⟨vp_in_nI (n := 8) (by decide) (by decide), fun y2 e2 => ?_⟩) (fun z0 b0 y1 f1 b1 => ⟨vp_in_nI (n := 8) (by decide) (by decide), fun y2 e2 => ?_⟩) (fun z0 y1 f1 b1 => ⟨vp_in_nI (n := 8) (by decide) (by decide), fun y2 e2 => ?_⟩)
  · obtain ⟨_, _, _, v7⟩ := nmC_0 z0
    rw [if_neg (fun w => w z0), if_neg b0] at h
    rw [shlN (by omega), fa_or] at e2
    have tk : TkO y2 n T (tE n T q) := t1.w (fun k q1 q2 => by rw [e2, mw_n _ _ _ (by decide)])
    have nm : NM zm y2 := by rw [e2]; exact NM_wc (d0.tr f1.N) _ _ (Or.inl rfl)
    have c0 : y2.1 0 = y1.1 0 := by rw [e2, mw_n _ _ _ (by decide)]
    rcases tk with tk | ⟨tx, tb⟩
    · refine h.1 rfl y2 ⟨nm, ?_, ?_, ?_, ?_, ?_, ?_, ?_, ?_, ?_, ?_⟩ tk
      · rw [c0, f1.2 8 (by decide) (by omega)]; exact d1
      · rw [c0, f1.2 9 (by decide) (by omega)]; exact d2
      · rw [c0, f1.2 10 (by decide) (by omega)]; exact d3
      · rw [c0, f1.2 11 (by decide) (by omega)]; exact d4
      · rw [c0, f1.2 12 (by decide) (by omega), d5]; rfl
      · rw [c0]; exact g13
      · intro b hb
        rw [e2, mw_k _ _ (by omega), f1.1 4 (by decide)]; exact d7 b hb
      · rw [e2, mw_s]; rfl
      · rw [e2, mw_n _ _ _ (by decide), f1.1 5 (by decide)]; exact d9
      · intro t x ht hx
        rw [e2, mw_k _ _ (by omega), f1.1 4 (by decide)]; exact d10 t x ht hx
    · exact h.2.1 rfl tx y2 ⟨nm, tb⟩
  · rw [if_neg (fun w => w z0), if_pos b0] at h
    exact bad _ _ y1 f1 b1 (fun y2 f2 => h.2.2 (by show (4 : Nat) ≠ 0; decide) y2 f2) _ y2 e2
  · rw [if_pos z0] at h
    exact bad _ _ y1 f1 b1 (fun y2 f2 => h.2.2 z0 y2 f2) _ y2 e2
