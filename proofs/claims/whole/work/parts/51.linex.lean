/-! a line of the text: the class -/
theorem NX_24 {z z1 : MX} (h : fr 24 24 z z1) (h1 : z1.1 24 1 = z.1 24 1) : NX z z1 := ⟨fun c hc => h.1 c (by omega), h1, by rw [h.1 33 (by omega)]⟩
/-- a token was read, all is well -/
def okX (z z1 : MX) (n : Nat) (T : Nat → Nat) (p : Nat) : Prop := fr 24 24 z z1 ∧ z1.1 24 1 = z.1 24 1 ∧ z1.1 24 4 = z.1 24 4 ∧ z1.1 24 2 = z.1 24 2 ∧ z1.1 24 6 = nI (tS n T p) ∧ z1.1 24 7 = nI (tE n T p)
def ftX (z z1 : MX) (c pl : Nat) : Prop := fr 24 24 z z1 ∧ z1.1 24 1 = z.1 24 1 ∧ z1.1 24 2 = nI c ∧ z1.1 24 3 = nI pl
theorem TpX.f {z z1 : MX} {n : Nat} {T : Nat → Nat} (h : TpX z n T) (hf : fr 24 24 z z1) (h1 : z1.1 24 1 = z.1 24 1) : TpX z1 n T := h.e h1 (hf.1 25 (by omega))
theorem sX_blame2 {z : MX} {n : Nat} {T : Nat → Nat} {p : Nat} (c : Nat) (h6 : z.1 24 6 = nI (tS n T p)) (post : Int32 → MX → Prop) (h : ∀ z1, ftX z z1 c (tS n T p) → post 0 z1) : pX5_blame z (nI c) post :=
  sX_blame _ _ (fun z1 f1 b2 b3 bo => h z1 ⟨f1, bo 1 (by decide) (by decide), b2, by rw [b3]; exact h6⟩)
theorem ftX.tr {z z1 z2 : MX} {n : Nat} {T : Nat → Nat} {p c pl : Nat} (h : okX z z1 n T p) (h2 : ftX z1 z2 c pl) : ftX z z2 c pl := ⟨h.1.tr h2.1, h2.2.1.trans h.2.1, h2.2.2.1, h2.2.2.2⟩
set_option maxHeartbeats 1000000 in
theorem sX_num {z : MX} {n : Nat} {T : Nat → Nat} (hT : TpX z n T) {p : Nat} (hp : p ≤ n) (h7 : z.1 24 7 = nI p) {lo hi : Nat} (hlo : lo < 100) (hhi : hi < 100) (post : Int32 → MX → Prop) (h1 : nmC n T p lo hi = 0 → ∀ z1, okX z z1 n T p → z1.1 24 8 = nI (tV n T p) → post 1 z1) (h0 : nmC n T p lo hi ≠ 0 → ∀ z1, ftX z z1 (nmC n T p lo hi) (tS n T p) → post 0 z1) : pX5_takeNumber z (nI lo) (nI hi) post := by
  unfold pX5_takeNumber
  refine sX_next hT hp h7 _ (fun x z1 k1 e2 => ⟨fun _ => ?_, fun w => absurd w (by decide)⟩) (fun x z1 k1 e2 e3 => ⟨fun w => absurd rfl w, fun _ => ⟨Or.inl rfl, ?_⟩⟩)
  · obtain ⟨f1, a1, a4, a5, a6, a7, a8⟩ := k1
    have ok : okX z z1 n T p := ⟨f1, a1, a4, e2, a6, a7⟩
    have kl := tK_lt n T p
    rw [a5, show (2 : Int32) = nI 2 from rfl, nI_eq (by omega) (by decide)]
    refine ⟨fun c => ?_, fun c => ?_⟩
    · have vlt := tV_lt hT.2.1 hp x c
      rw [a8 c x, nI_ltI (by omega) (by omega), nI_leI (by omega) (by omega)]
      unfold pX5_takeNumber_b39 pX5_takeNumber_b47
      have bad : tV n T p < lo ∨ hi < tV n T p → pX5_blame z1 3 (fun r41 z41 => (r41 = 0 → ((0 : Int32) = 0 ∨ (0 : Int32) = 1) ∧ post 0 z41) ∧ (¬ r41 = 0 → ((1 : Int32) = 0 ∨ (1 : Int32) = 1) ∧ post 1 z41)) := by
        intro w
        have e3 := nmC_3 (T := T) x c w
        rw [e3] at h0
        exact sX_blame2 3 a6 _ (fun z2 b2 => ⟨fun _ => ⟨Or.inl rfl, h0 (by decide) z2 (ftX.tr ok b2)⟩, fun w => absurd rfl w⟩)
      refine ⟨fun w => bad (Or.inl w), fun w => ⟨fun w2 => ⟨Or.inr rfl, h1 (nmC_4 x c (by omega) w2) z1 ok (a8 c x)⟩, fun w2 => bad (Or.inr (by omega))⟩⟩
    · have e3 := nmC_2 (T := T) (lo := lo) (hi := hi) x c
      rw [e3] at h0
      exact sX_blame2 2 a6 _ (fun z2 b2 => ⟨Or.inl rfl, h0 (by decide) z2 (ftX.tr ok b2)⟩)
  · obtain ⟨f1, a1, a4, a5, a6, a7, a8⟩ := k1
    have e4 := nmC_1 (lo := lo) (hi := hi) x
    rw [e4] at h0
    exact h0 (by decide) z1 ⟨f1, a1, e2, e3⟩
theorem sX_semi {z : MX} {n : Nat} {T : Nat → Nat} (hT : TpX z n T) {p : Nat} (hp : p ≤ n) (h7 : z.1 24 7 = nI p) (post : Int32 → MX → Prop) (h1 : smC n T p = 0 → ∀ z1, okX z z1 n T p → post 1 z1) (h0 : smC n T p ≠ 0 → ∀ z1, ftX z z1 (smC n T p) (tS n T p) → post 0 z1) : pX5_takeSemicolon z post := by
  unfold pX5_takeSemicolon
  unfold smC at h1 h0
  refine sX_next hT hp h7 _ (fun x z1 k1 e2 => ⟨fun w => absurd w (by decide), fun _ => ?_⟩) (fun x z1 k1 e2 e3 => ⟨fun _ => ⟨Or.inl rfl, ?_⟩, fun w => absurd rfl w⟩)
  · obtain ⟨f1, a1, a4, a5, a6, a7, a8⟩ := k1
    have ok : okX z z1 n T p := ⟨f1, a1, a4, e2, a6, a7⟩
    have kl := tK_lt n T p
    rw [ci_n x] at h1 h0
    rw [a5, show (3 : Int32) = nI 3 from rfl, nI_eq (by omega) (by decide)]
    unfold pX5_takeSemicolon_b23
    refine ⟨fun c => ⟨Or.inr rfl, h1 (if_neg (fun w => w c)) z1 ok⟩, fun c => ?_⟩
    rw [if_pos c] at h0
    exact sX_blame2 2 a6 _ (fun z2 b2 => ⟨fun _ => ⟨Or.inl rfl, h0 (by decide) z2 (ftX.tr ok b2)⟩, fun w => absurd rfl w⟩)
  · obtain ⟨f1, a1, a4, a5, a6, a7, a8⟩ := k1
    rw [ci_y x] at h0
    exact h0 (by decide) z1 ⟨f1, a1, e2, e3⟩
theorem sX_way {z : MX} {n : Nat} {T : Nat → Nat} (hT : TpX z n T) {p : Nat} (hp : p ≤ n) (h7 : z.1 24 7 = nI p) (post : Int32 → MX → Prop) (h1 : wyC n T p = 0 → ∀ z1, okX z z1 n T p → z1.1 24 8 = nI (wd n T p - 11) → post 1 z1) (h0 : wyC n T p ≠ 0 → ∀ z1, ftX z z1 (wyC n T p) (tS n T p) → post 0 z1) : pX5_takeWay z post := by
  unfold pX5_takeWay
  unfold wyC at h1 h0
  refine sX_next hT hp h7 _ (fun x z1 k1 e2 => ⟨fun _ => ?_, fun w => absurd w (by decide)⟩) (fun x z1 k1 e2 e3 => ⟨fun w => absurd rfl w, fun _ => ⟨Or.inl rfl, ?_⟩⟩)
  · obtain ⟨f1, a1, a4, a5, a6, a7, a8⟩ := k1
    have ok : okX z z1 n T p := ⟨f1, a1, a4, e2, a6, a7⟩
    rw [ci_n x] at h1 h0
    refine sX_word (hT.f f1 a1) hp a5 a6 a7 (tK_lt n T p) _ ?_
    have wl := wd_le n T p
    unfold wcX
    by_cases c : wd n T p < 13
    · rw [if_pos c, show (11 : Int32) = nI 11 from rfl, nI_leI (by decide) (by omega)]
      refine ⟨fun d z2 e2' => ⟨Or.inr rfl, ?_⟩, fun d => ?_⟩
      · rw [pk_sub (by omega)] at e2'
        refine h1 (if_neg (by omega)) z2 ⟨?_, ?_, ?_, ?_, ?_, ?_⟩ (by rw [e2', mw_s])
        · rw [e2']; exact f1.mw _ _ (by omega) (by omega)
        · rw [e2', mw_k _ _ (by decide)]; exact a1
        · rw [e2', mw_k _ _ (by decide)]; exact a4
        · rw [e2', mw_k _ _ (by decide)]; exact e2
        · rw [e2', mw_k _ _ (by decide)]; exact a6
        · rw [e2', mw_k _ _ (by decide)]; exact a7
      · rw [if_pos (by omega)] at h0
        exact sX_blame2 2 a6 _ (fun z2 b2 => ⟨Or.inl rfl, h0 (by decide) z2 (ftX.tr ok b2)⟩)
    · rw [if_neg c]
      rw [if_pos (by omega)] at h0
      refine ⟨fun d => absurd d (by decide), fun _ => sX_blame2 2 a6 _ (fun z2 b2 => ⟨Or.inl rfl, h0 (by decide) z2 (ftX.tr ok b2)⟩)⟩
  · obtain ⟨f1, a1, a4, a5, a6, a7, a8⟩ := k1
    rw [ci_y x] at h0
    exact h0 (by decide) z1 ⟨f1, a1, e2, e3⟩
/-- the class while it reads a text -/
def RpX (zx z : MX) (A : AL) (bt p : Nat) : Prop := NX zx z ∧ LX 1 z A ∧ z.1 24 2 = 0 ∧ z.1 24 4 = nI bt ∧ z.1 24 7 = nI p
def FtX (zx z : MX) (c pl : Nat) : Prop := NX zx z ∧ z.1 24 2 = nI c ∧ z.1 24 3 = nI pl
theorem RpX.ok {zx z z1 : MX} {A : AL} {bt p : Nat} {n : Nat} {T : Nat → Nat} {q : Nat} (h : RpX zx z A bt p) (k : okX z z1 n T q) : RpX zx z1 A bt (tE n T q) := ⟨h.1.tr (NX_24 k.1 k.2.1), h.2.1.fr k.1 (by omega), k.2.2.2.1.trans h.2.2.1, k.2.2.1.trans h.2.2.2.1, k.2.2.2.2.2⟩
theorem RpX.ft {zx z z1 : MX} {A : AL} {bt p c pl : Nat} (h : RpX zx z A bt p) (k : ftX z z1 c pl) : FtX zx z1 c pl := ⟨h.1.tr (NX_24 k.1 k.2.1), k.2.2.1, k.2.2.2⟩
theorem TpX.N {z z1 : MX} {n : Nat} {T : Nat → Nat} (h : TpX z n T) (hN : NX z z1) : TpX z1 n T := h.e hN.2.1 (hN.1 25 (by omega))
/-- what takes a word's line up to its semicolon -/
def bdX (zx : MX) (o : Nat × Nat × PS) (post : Int32 → MX → Prop) : Prop := (o.1 = 0 → ∀ z1, RpX zx z1 o.2.2.1 o.2.2.2.1 o.2.2.2.2.2 → post 1 z1) ∧ (o.1 ≠ 0 → ∀ z1, FtX zx z1 o.1 o.2.1 → post 0 z1)
theorem sX_blocks {zx z : MX} {n : Nat} {T : Nat → Nat} (hT : TpX zx n T) {A : AL} {bt hb p q : Nat} (hq : q ≤ n) (hR : RpX zx z A bt q) (hbt : bt < 2) (h6 : z.1 24 6 = nI (tS n T p)) (post : Int32 → MX → Prop) (h : bdX zx (oBl n T A bt hb p q) post) : pX5_takeBlocks 1 z post := by
  unfold pX5_takeBlocks
  unfold bdX oBl at h
  rw [hR.2.2.2.1]
  refine ⟨fun c => ?_, fun c => ?_⟩
  · have b0 : bt = 0 := (nI_eq (b := 0) (by omega) (by decide)).mp c
    rw [if_neg (by omega)] at h
    refine sX_num (hT.N hR.1) hq hR.2.2.2.2 (lo := 2) (hi := 8) (by decide) (by decide) _ (fun y z1 ok e8 => ⟨fun _ z2 e2 z3 e3 => ⟨Or.inr rfl, ?_⟩, fun w => absurd w (by decide)⟩) (fun y z1 ft => ⟨fun w => absurd rfl w, fun _ => ⟨Or.inl rfl, ?_⟩⟩)
    · rw [if_neg (fun w => w y)] at h
      have r1 := hR.ok ok
      have e82 : z2.1 24 8 = nI (tV n T q) := by rw [e2, mw_k _ _ (by decide)]; exact e8
      rw [e82] at e3
      refine h.1 rfl z3 ⟨?_, ?_, ?_, ?_, ?_⟩
      · have n2 : NX zx z2 := r1.1.tr (NX_24 (by rw [e2]; exact (fr.rf 24 24 z1).mw _ _ (by omega) (by omega)) (by rw [e2, mw_k _ _ (by decide)]))
        rw [e3]; exact n2.mw _ _ (by omega)
      · have l2 : LX 1 z2 A := r1.2.1.cells (fun c _ _ => by rw [e2, mw_n _ _ _ (by omega)])
        obtain ⟨l1, l2, l3, l4, l5, l6, l7⟩ := l2
        rw [e3]
        unfold LX
        simp only [mw_g, Au_g]
        simp
        exact ⟨l2, l3, l4, l5, l6, l7⟩
      · rw [e3, mw_n _ _ _ (by decide), e2, mw_k _ _ (by decide)]; exact r1.2.2.1
      · rw [e3, mw_n _ _ _ (by decide), e2, mw_s]; rfl
      · rw [e3, mw_n _ _ _ (by decide), e2, mw_k _ _ (by decide)]; exact r1.2.2.2.2
    · rw [if_pos y] at h
      exact h.2 y z1 (hR.ft ft)
  · rw [if_pos (fun w => c (by rw [w]; rfl))] at h
    exact sX_blame2 4 h6 _ (fun z1 ft => ⟨Or.inl rfl, h.2 (by show (4 : Nat) ≠ 0; decide) z1 (hR.ft ft)⟩)
theorem sX_omen {zx z : MX} {n : Nat} {T : Nat → Nat} (hT : TpX zx n T) {A : AL} {bt hb p q w : Nat} (hq : q ≤ n) (hA : DOK A hb) (hR : RpX zx z A bt q) (post : Int32 → MX → Prop) (h : bdX zx (oOm n T A bt hb p q w) post) : pX5_takeOmen 1 z (nI w) post := by
  unfold pX5_takeOmen
  unfold bdX oOm at h
  refine sX_num (hT.N hR.1) hq hR.2.2.2.2 (lo := 0) (hi := 7) (by decide) (by decide) _ (fun y z1 ok e8 => ⟨fun _ => ?_, fun w => absurd w (by decide)⟩) (fun y z1 ft => ⟨fun w => absurd rfl w, fun _ => ⟨Or.inl rfl, ?_⟩⟩)
  · rw [if_neg (fun w => w y)] at h
    have r1 := hR.ok ok
    obtain ⟨_, _, _, v7⟩ := nmC_0 y
    have o5 := hA.2.2.2.2.2.1 (tV n T q) (by omega)
    rw [e8, nI_clamp (by omega), r1.2.1.2.2.2.2.1 _ (by omega)]
    refine ⟨vp_in_nI (by omega) (by decide), fun c => ⟨vp_in_nI (by omega) (by decide), fun z2 e2 => ⟨Or.inr rfl, ?_⟩⟩, fun c => ?_⟩
    · have c0 : A 1 (tV n T q) = 0 := (nI_eq (b := 0) (by omega) (by decide)).mp c
      rw [if_neg (fun w => w c0)] at h
      refine h.1 rfl z2 ⟨by rw [e2]; exact r1.1.mw _ _ (by omega), by rw [e2]; exact r1.2.1.o _ _, ?_, ?_, ?_⟩
      · rw [e2, mw_n _ _ _ (by decide)]; exact r1.2.2.1
      · rw [e2, mw_n _ _ _ (by decide)]; exact r1.2.2.2.1
      · rw [e2, mw_n _ _ _ (by decide)]; exact r1.2.2.2.2
    · rw [if_pos (fun w => c (by rw [w]; rfl))] at h
      exact sX_blame2 4 ok.2.2.2.2.1 _ (fun z2 ft => ⟨Or.inl rfl, h.2 (by show (4 : Nat) ≠ 0; decide) z2 (r1.ft ft)⟩)
  · rw [if_pos y] at h
    exact h.2 y z1 (hR.ft ft)
theorem sX_guardT {zx z : MX} {n : Nat} {T : Nat → Nat} (hT : TpX zx n T) {A : AL} {bt hb p q : Nat} (hq : q ≤ n) (hA : DOK A hb) (hR : RpX zx z A bt q) (post : Int32 → MX → Prop) (h : bdX zx (oGu n T A bt hb p q) post) : pX5_takeGuard 1 z post := by
  unfold pX5_takeGuard
  unfold bdX oGu at h
  refine sX_num (hT.N hR.1) hq hR.2.2.2.2 (lo := 0) (hi := 7) (by decide) (by decide) _ (fun y z1 ok e8 => ⟨fun _ => ?_, fun w => absurd w (by decide)⟩) (fun y z1 ft => ⟨fun w => absurd rfl w, fun _ => ⟨Or.inl rfl, ?_⟩⟩)
  · rw [if_neg (fun w => w y)] at h
    have r1 := hR.ok ok
    obtain ⟨_, _, _, v7⟩ := nmC_0 y
    have g256 := hA.2.2.2.2.1
    rw [e8]
    refine s_guarded r1.2.1 _ _ ?_
    rw [bitN (by omega) (by omega)]
    have b2 : A 0 3 / 2 ^ tV n T q % 2 < 2 := Nat.mod_lt _ (by decide)
    refine ⟨fun c z2 e2 => ⟨Or.inr rfl, ?_⟩, fun c => ?_⟩
    · have c0 : A 0 3 / 2 ^ tV n T q % 2 = 0 := (nI_eq (b := 0) (by omega) (by decide)).mp c
      rw [if_neg (by omega)] at h
      rw [e8, shlN (by omega), r1.2.1.2.1, fa_or] at e2
      refine h.1 rfl z2 ⟨by rw [e2]; exact r1.1.mw _ _ (by omega), by rw [e2]; exact r1.2.1.g _, ?_, ?_, ?_⟩
      · rw [e2, mw_n _ _ _ (by decide)]; exact r1.2.2.1
      · rw [e2, mw_n _ _ _ (by decide)]; exact r1.2.2.2.1
      · rw [e2, mw_n _ _ _ (by decide)]; exact r1.2.2.2.2
    · have c1 : A 0 3 / 2 ^ tV n T q % 2 = 1 := by
        have : A 0 3 / 2 ^ tV n T q % 2 ≠ 0 := fun w => c (by rw [w]; rfl)
        omega
      rw [if_pos c1] at h
      exact sX_blame2 4 ok.2.2.2.2.1 _ (fun z2 ft => ⟨Or.inl rfl, h.2 (by show (4 : Nat) ≠ 0; decide) z2 (r1.ft ft)⟩)
  · rw [if_pos y] at h
    exact h.2 y z1 (hR.ft ft)
set_option maxHeartbeats 1000000 in
theorem sX_lockT {zx z : MX} {n : Nat} {T : Nat → Nat} (hT : TpX zx n T) {A : AL} {bt hb p q : Nat} (hq : q ≤ n) (hA : DOK A hb) (hR : RpX zx z A bt q) (h6 : z.1 24 6 = nI (tS n T p)) (post : Int32 → MX → Prop) (h : bdX zx (oLk n T A bt hb p q) post) : pX5_takeLock 1 z post := by
  unfold pX5_takeLock
  unfold bdX oLk at h
  have hl := hA.2.2.2.1
  rw [hR.2.1.2.2.1, show (4 : Int32) = nI 4 from rfl, nI_ltI (by omega) (by decide)]
  refine ⟨fun l4 => ?_, fun l4 => ?_⟩
  case refine_2 =>
    rw [if_pos (by omega)] at h
    exact sX_blame2 5 h6 _ (fun z1 ft => ⟨Or.inl rfl, h.2 (by show (5 : Nat) ≠ 0; decide) z1 (hR.ft ft)⟩)
  rw [if_neg (by omega)] at h
  refine sX_num (hT.N hR.1) hq hR.2.2.2.2 (lo := 0) (hi := 7) (by decide) (by decide) _ (fun y z1 ok e8 => ⟨fun _ u hu => ?_, fun w => absurd w (by decide)⟩) (fun y z1 ft => ⟨fun w => absurd rfl w, fun _ => ⟨Or.inl rfl, ?_⟩⟩)
  case refine_2 =>
    rw [if_pos y] at h
    exact h.2 y z1 (hR.ft ft)
  rw [if_neg (fun w => w y)] at h
  have r1 := hR.ok ok
  have q1 := tE_b (T := T) hq
  obtain ⟨_, _, _, v7⟩ := nmC_0 y
  refine sX_num (hT.N r1.1) q1.2 r1.2.2.2.2 (lo := 0) (hi := 7) (by decide) (by decide) _ (fun y2 z2 ok2 e82 => ⟨fun _ => ?_, fun w => absurd w (by decide)⟩) (fun y2 z2 ft => ⟨fun w => absurd rfl w, fun _ => ⟨Or.inl rfl, ?_⟩⟩)
  case refine_2 =>
    rw [if_pos y2] at h
    exact h.2 y2 z2 (r1.ft ft)
  rw [if_neg (fun w => w y2)] at h
  have r2 := r1.ok ok2
  obtain ⟨_, _, _, w7⟩ := nmC_0 y2
  rw [e82, hu, e8, nI_eq (by omega) (by omega)]
  refine ⟨fun c => ?_, fun c => ?_⟩
  case refine_2 =>
    rw [if_pos c] at h
    exact sX_blame2 3 ok2.2.2.2.2.1 _ (fun z3 ft => ⟨Or.inl rfl, h.2 (by show (3 : Nat) ≠ 0; decide) z3 (r2.ft ft)⟩)
  rw [if_neg c] at h
  have e2m : (2 : Int32) * nI (A 0 2) = nI (2 * A 0 2) := by rw [show (2 : Int32) = nI 2 from rfl, pk_mul]
  rw [r2.2.1.2.2.1, e2m, nI_clamp (by omega)]
  refine ⟨vp_in_nI (by omega) (by decide), fun z3 e3 => ?_⟩
  have x2 : z3.1 (4 * 1) 2 = nI (A 0 2) := by rw [e3, mw_n _ _ _ (by decide)]; exact r2.2.1.2.2.1
  have x8 : z3.1 24 8 = nI (tV n T (tE n T q)) := by rw [e3, mw_n _ _ _ (by decide)]; exact e82
  rw [x2, e2m, nI_1, nI_clamp (by omega), x8]
  refine ⟨vp_in_nI (by omega) (by decide), fun z4 e4 => ?_⟩
  have x3 : z4.1 (4 * 1) 2 = nI (A 0 2) := by rw [e4, mw_n _ _ _ (by decide)]; exact x2
  rw [x3, nI_1]
  intro z5 e5
  refine ⟨Or.inr rfl, h.1 rfl z5 ⟨?_, ?_, ?_, ?_, ?_⟩⟩
  · rw [e5, e4, e3]
    exact ((r2.1.mw _ _ (by omega)).mw _ _ (by omega)).mw _ _ (by omega)
  · obtain ⟨l1, l2, l3, l4', l5, l6, l7⟩ := r2.2.1
    show LX 1 z5 (lkA A (tV n T q) (tV n T (tE n T q)))
    unfold LX
    rw [lkA_02, lkA_0 A _ _ (by decide), lkA_0 A _ _ (by decide), lkA_0 A _ _ (by decide), lkA_n A _ _ (a := 1) (by decide) (by decide), lkA_n A _ _ (a := 3) (by decide) (by decide)]
    have c4 : ∀ k, k ≠ 2 → z5.1 (4 * 1) k = z2.1 (4 * 1) k := fun k hk => by rw [e5, mw_k _ _ hk, e4, mw_n _ _ _ (by decide), e3, mw_n _ _ _ (by decide)]
    have co : ∀ c, c ≠ 4 * 1 → c ≠ 4 * 1 + 2 → z5.1 c = z2.1 c := fun c h1 h2 => by rw [e5, mw_n _ _ _ h1, e4, mw_n _ _ _ h2, e3, mw_n _ _ _ h2]
    refine ⟨by rw [c4 0 (by decide)]; exact l1, by rw [c4 1 (by decide)]; exact l2, by rw [e5, mw_s], by rw [c4 3 (by decide)]; exact l4', by rw [co (4 * 1 + 1) (by decide) (by decide)]; exact l5, fun j hj => ?_, by rw [co (4 * 1 + 3) (by decide) (by decide)]; exact l7⟩
    rw [e5, mw_n _ _ _ (by decide), e4, mw_g, e3, mw_g, lkA_2]
    by_cases d1 : j = 2 * A 0 2 + 1
    · rw [if_pos ⟨rfl, d1⟩, if_pos d1]
    · rw [if_neg (fun w => d1 w.2), if_neg d1]
      by_cases d2 : j = 2 * A 0 2
      · rw [if_pos ⟨rfl, d2⟩, if_pos d2]
      · rw [if_neg (fun w => d2 w.2), if_neg d2]
        exact l6 j (by omega)
  · rw [e5, e4, e3, mw_n _ _ _ (by decide), mw_n _ _ _ (by decide), mw_n _ _ _ (by decide)]; exact r2.2.2.1
  · rw [e5, e4, e3, mw_n _ _ _ (by decide), mw_n _ _ _ (by decide), mw_n _ _ _ (by decide)]; exact r2.2.2.2.1
  · rw [e5, e4, e3, mw_n _ _ _ (by decide), mw_n _ _ _ (by decide), mw_n _ _ _ (by decide)]; exact r2.2.2.2.2
theorem s_putR {z : MX} {t w : Nat} (ht : t < 4) (hw : w < 4) (v : Int32) (post : MX → Prop) (h : ∀ z1, z1 = mw z 7 (4 * t + w) v → post z1) : pX0_putFact 1 z (nI t) (nI w) v post := by
  unfold pX0_putFact
  have e1 : (4 : Int32) * nI t + nI w = nI (4 * t + w) := by rw [show (4 : Int32) = nI 4 from rfl, pk_mul, nI_add]
  rw [e1, nI_clamp (by omega)]
  exact ⟨vp_in_nI (by omega) (by decide), h⟩
/-- a fact beyond the trains -/
theorem RpX.pf {zx z z1 : MX} {A : AL} {bt p : Nat} (h : RpX zx z A bt p) {w : Nat} (v : Int32) (e : z1 = mw z 7 (4 * A 0 1 + w) v) : RpX zx z1 A bt p := by
  obtain ⟨h1, ⟨l1, l2, l3, l4, l5, l6, l7⟩, h3, h4, h5⟩ := h
  have co : ∀ c, c ≠ 7 → z1.1 c = z.1 c := fun c hc => by rw [e, mw_n _ _ _ hc]
  refine ⟨by rw [e]; exact h1.mw _ _ (by omega), ?_, by rw [co 24 (by decide)]; exact h3, by rw [co 24 (by decide)]; exact h4, by rw [co 24 (by decide)]; exact h5⟩
  refine ⟨by rw [co (4 * 1) (by decide)]; exact l1, by rw [co (4 * 1) (by decide)]; exact l2, by rw [co (4 * 1) (by decide)]; exact l3, by rw [co (4 * 1) (by decide)]; exact l4, by rw [co (4 * 1 + 1) (by decide)]; exact l5, by rw [co (4 * 1 + 2) (by decide)]; exact l6, fun t x ht hx => ?_⟩
  rw [e, mw_k _ _ (by omega)]
  exact l7 t x ht hx
set_option maxHeartbeats 2000000 in
theorem sX_trainT {zx z : MX} {n : Nat} {T : Nat → Nat} (hT : TpX zx n T) {A : AL} {bt hb p q f : Nat} (hq : q ≤ n) (hA : DOK A hb) (hR : RpX zx z A bt q) (h6 : z.1 24 6 = nI (tS n T p)) (post : Int32 → MX → Prop) (h : bdX zx (oTr n T A bt hb p q f) post) : pX5_takeTrain 1 z (nI f) post := by
  unfold pX5_takeTrain
  unfold bdX oTr at h
  have hl := hA.2.2.1
  intro x hx
  rw [hR.2.1.2.2.2.1] at hx
  rw [hx, show (4 : Int32) = nI 4 from rfl, nI_ltI (by omega) (by decide)]
  refine ⟨fun l4 => ?_, fun l4 => ?_⟩
  case refine_2 =>
    rw [if_pos (by omega)] at h
    exact sX_blame2 5 h6 _ (fun z1 ft => ⟨Or.inl rfl, h.2 (by show (5 : Nat) ≠ 0; decide) z1 (hR.ft ft)⟩)
  rw [if_neg (by omega)] at h
  refine s_putR (w := 0) l4 (by decide) _ _ (fun z1 e1 => ?_)
  have r1 := hR.pf _ e1
  refine sX_way (hT.N r1.1) hq r1.2.2.2.2 _ (fun y z2 ok2 e8 => ⟨fun _ => ?_, fun w => absurd w (by decide)⟩) (fun y z2 ft => ⟨fun w => absurd rfl w, fun _ => ⟨Or.inl rfl, ?_⟩⟩)
  case refine_2 =>
    rw [if_pos y] at h
    exact h.2 y z2 (r1.ft ft)
  rw [if_neg (fun w => w y)] at h
  have r2 := r1.ok ok2
  have q1 := tE_b (T := T) hq
  refine s_putR (w := 1) l4 (by decide) _ _ (fun z3 e3 => ⟨vp_in_nI (n := 2) (by decide) (by decide), ?_⟩)
  have r3 := r2.pf _ e3
  refine sX_num (hT.N r3.1) q1.2 r3.2.2.2.2 (lo := 0) (hi := 9) (by decide) (by decide) _ (fun y2 z4 ok4 e84 => ⟨fun _ => ?_, fun w => absurd w (by decide)⟩) (fun y2 z4 ft => ⟨fun w => absurd rfl w, fun _ => ⟨Or.inl rfl, ?_⟩⟩)
  case refine_2 =>
    rw [if_pos y2] at h
    exact h.2 y2 z4 (r3.ft ft)
  rw [if_neg (fun w => w y2)] at h
  have r4 := r3.ok ok4
  have q2 := tE_b (T := T) q1.2
  refine s_putR (w := 2) l4 (by decide) _ _ (fun z5 e5 => ⟨vp_in_nI (n := 3) (by decide) (by decide), ?_⟩)
  have r5 := r4.pf _ e5
  refine sX_num (hT.N r5.1) q2.2 r5.2.2.2.2 (lo := 0) (hi := 9) (by decide) (by decide) _ (fun y3 z6 ok6 e86 => ⟨fun _ => ?_, fun w => absurd w (by decide)⟩) (fun y3 z6 ft => ⟨fun w => absurd rfl w, fun _ => ⟨Or.inl rfl, ?_⟩⟩)
  case refine_2 =>
    rw [if_pos y3] at h
    exact h.2 y3 z6 (r5.ft ft)
  rw [if_neg (fun w => w y3)] at h
  have r6 := r5.ok ok6
  refine s_putR (w := 3) l4 (by decide) _ _ (fun z7 e7 z8 e8' => ⟨Or.inr rfl, ?_⟩)
  have r7 := r6.pf _ e7
  rw [r7.2.1.2.2.2.1, nI_1] at e8'
  have co : ∀ c, c ≠ 4 * 1 → z8.1 c = z7.1 c := fun c hc => by rw [e8', mw_n _ _ _ hc]
  refine h.1 rfl z8 ⟨?_, ?_, by rw [co 24 (by decide)]; exact r7.2.2.1, by rw [co 24 (by decide)]; exact r7.2.2.2.1, by rw [co 24 (by decide)]; exact r7.2.2.2.2⟩
  · rw [e8']; exact r7.1.mw _ _ (by omega)
  · obtain ⟨l1, l2, l3, l4', l5, l6, l7⟩ := r7.2.1
    show LX 1 z8 (trA A f (wd n T q - 11) (tV n T (tE n T q)) (tV n T (tE n T (tE n T q))))
    unfold LX
    rw [trA_01, trA_0 A _ _ _ _ (by decide), trA_0 A _ _ _ _ (by decide), trA_0 A _ _ _ _ (by decide), trA_n A _ _ _ _ (a := 1) (by decide) (by decide), trA_n A _ _ _ _ (a := 2) (by decide) (by decide)]
    have c4 : ∀ k, k ≠ 3 → z8.1 (4 * 1) k = z7.1 (4 * 1) k := fun k hk => by rw [e8', mw_k _ _ hk]
    refine ⟨by rw [c4 0 (by decide)]; exact l1, by rw [c4 1 (by decide)]; exact l2, by rw [c4 2 (by decide)]; exact l3, by rw [e8', mw_s], by rw [co (4 * 1 + 1) (by decide)]; exact l5, by rw [co (4 * 1 + 2) (by decide)]; exact l6, fun t x ht hx => ?_⟩
    rw [co (4 * 1 + 3) (by decide), trA_3 A _ _ _ _ hx]
    by_cases c : t = A 0 1
    · rw [if_pos c, c]
      have k1 : z7.1 7 (4 * A 0 1 + 3) = nI (tV n T (tE n T (tE n T q))) := by rw [e7, mw_s]; exact e86
      have k2 : z7.1 7 (4 * A 0 1 + 2) = nI (tV n T (tE n T q)) := by rw [e7, mw_k _ _ (by omega), ok6.1.1 7 (by omega), e5, mw_s]; exact e84
      have k3 : z7.1 7 (4 * A 0 1 + 1) = nI (wd n T q - 11) := by rw [e7, mw_k _ _ (by omega), ok6.1.1 7 (by omega), e5, mw_k _ _ (by omega), ok4.1.1 7 (by omega), e3, mw_s]; exact e8
      have k4 : z7.1 7 (4 * A 0 1) = nI f := by rw [e7, mw_k _ _ (by omega), ok6.1.1 7 (by omega), e5, mw_k _ _ (by omega), ok4.1.1 7 (by omega), e3, mw_k _ _ (by omega), ok2.1.1 7 (by omega), e1, Nat.add_zero, mw_s]
      have : x = 0 ∨ x = 1 ∨ x = 2 ∨ x = 3 := by omega
      rcases this with e | e | e | e <;> subst e
      · exact k4
      · exact k3
      · exact k2
      · exact k1
    · rw [if_neg c]
      exact l7 t x (by omega) hx
set_option maxHeartbeats 2000000 in
theorem sX_line {zx z : MX} {n : Nat} {T : Nat → Nat} (hT : TpX zx n T) {A : AL} {bt hb p : Nat} (hp : p ≤ n) (hA : DOK A hb) (hbt : bt < 2) (hR : RpX zx z A bt p) (post : Int32 → MX → Prop) (hX : tX n T p → ∀ z1, FtX zx z1 1 (tS n T p) → post 0 z1) (hE : ¬ tX n T p → tK n T p = 0 → ∀ z1, RpX zx z1 A bt (tE n T p) → z1.1 24 6 = nI (tS n T p) → post 0 z1) (hF : ¬ tX n T p → tK n T p ≠ 0 → (oLn n T A bt hb p).1 ≠ 0 → ∀ z1, FtX zx z1 (oLn n T A bt hb p).1 (oLn n T A bt hb p).2.1 → post 0 z1) (hO : ¬ tX n T p → tK n T p ≠ 0 → (oLn n T A bt hb p).1 = 0 → ∀ z1, RpX zx z1 (oLn n T A bt hb p).2.2.1 (oLn n T A bt hb p).2.2.2.1 (oLn n T A bt hb p).2.2.2.2.2 → post 1 z1) (hq3 : (oBd n T A bt hb p).1 = 0 → (oBd n T A bt hb p).2.2.2.2.2 ≤ n) : pX5_takeLine 1 z post := by
  unfold pX5_takeLine
  refine sX_next (hT.N hR.1) hp hR.2.2.2.2 _ (fun x z1 k1 e2 => ⟨fun w => absurd w (by decide), fun _ => ?_⟩) (fun x z1 k1 e2 e3 => ⟨fun _ => ⟨Or.inl rfl, ?_⟩, fun w => absurd rfl w⟩)
  case refine_2 =>
    obtain ⟨f1, a1, a4, a5, a6, a7, a8⟩ := k1
    exact hX x z1 ⟨hR.1.tr (NX_24 f1 a1), e2, e3⟩
  obtain ⟨f1, a1, a4, a5, a6, a7, a8⟩ := k1
  have ok : okX z z1 n T p := ⟨f1, a1, a4, e2, a6, a7⟩
  have r1 := hR.ok ok
  have kl := tK_lt n T p
  rw [a5, show (0 : Int32) = nI 0 from rfl, nI_eq (by omega) (by decide)]
  refine ⟨fun c => ?_, fun c => ⟨Or.inl rfl, hE x c z1 r1 a6⟩⟩
  have qb := tE_b (T := T) hp
  -- behind the body
  have aft : bdX zx (oBd n T A bt hb p) (fun r z2 => pX5_takeLine_b113 1 post z2 r) := by
    have e : oLn n T A bt hb p = oSm n T (oBd n T A bt hb p) := rfl
    refine ⟨fun o0 z2 r2 => ?_, fun o0 z2 f2 => ?_⟩
    · unfold pX5_takeLine_b113
      refine ⟨fun w => absurd w (by decide), fun _ => ?_⟩
      refine sX_semi (hT.N r2.1) (hq3 o0) r2.2.2.2.2 _ (fun y z3 ok3 => ⟨fun w => absurd w (by decide), fun _ => ⟨Or.inr rfl, ?_⟩⟩) (fun y z3 ft => ⟨fun _ => ⟨Or.inl rfl, ?_⟩, fun w => absurd rfl w⟩)
      · have e2 : oLn n T A bt hb p = (0, 0, (oBd n T A bt hb p).2.2.1, (oBd n T A bt hb p).2.2.2.1, (oBd n T A bt hb p).2.2.2.2.1, tE n T (oBd n T A bt hb p).2.2.2.2.2) := by
          rw [e]; unfold oSm; rw [if_neg (fun w => w o0), if_neg (fun w => w y)]
        rw [e2] at hO
        exact hO x c rfl z3 (r2.ok ok3)
      · have e2 : oLn n T A bt hb p = (smC n T (oBd n T A bt hb p).2.2.2.2.2, tS n T (oBd n T A bt hb p).2.2.2.2.2, (oBd n T A bt hb p).2.2) := by
          rw [e]; unfold oSm; rw [if_neg (fun w => w o0), if_pos y]
        rw [e2] at hF
        exact hF x c y z3 (r2.ft ft)
    · have e2 : oLn n T A bt hb p = oBd n T A bt hb p := by rw [e]; unfold oSm; rw [if_pos o0]
      rw [e2] at hF
      unfold pX5_takeLine_b113
      exact ⟨fun _ => ⟨Or.inl rfl, hF x c o0 z2 f2⟩, fun w => absurd rfl w⟩
  unfold oBd at aft
  refine sX_word (hT.N r1.1) hp a5 a6 a7 kl _ ?_
  have wl := wd_le n T p
  unfold wcX
  unfold pX5_takeLine_b53 pX5_takeLine_b107
  have mis : 11 ≤ wd n T p → pX5_blame z1 2 (fun r109 z109 => pX5_takeLine_b113 1 post z109 r109) := by
    intro w
    rw [if_neg (by omega), if_neg (by omega), if_neg (by omega), if_neg (by omega), if_neg (by omega)] at aft
    exact sX_blame2 2 a6 _ (fun z2 ft => aft.2 (by show (2 : Nat) ≠ 0; decide) z2 (r1.ft ft))
  by_cases w13 : wd n T p = 13
  · rw [if_neg (by omega)]
    refine ⟨fun _ => ⟨fun _ => ⟨fun _ => ⟨fun _ => ⟨fun _ => mis (by omega), fun w => absurd (by decide) w⟩, fun w => absurd w (by decide)⟩, fun w => absurd w (by decide)⟩, fun w => absurd (by decide) w⟩, fun w => absurd w (by decide)⟩
  rw [if_pos (by omega), show (4 : Int32) = nI 4 from rfl, show (5 : Int32) = nI 5 from rfl, show (6 : Int32) = nI 6 from rfl, show (7 : Int32) = nI 7 from rfl, show (10 : Int32) = nI 10 from rfl, nI_eq (by omega) (by omega), nI_eq (by omega) (by omega), nI_eq (by omega) (by omega), nI_leI (by omega) (by omega), nI_ltI (by omega) (by omega), nI_ltI (by omega) (by omega), nI_ltI (by omega) (by omega)]
  refine ⟨fun w0 => ⟨fun w => absurd w (by omega), fun _ => ⟨fun w4 => ⟨fun w5 => ⟨fun w6 => ⟨fun w => absurd w (by omega), fun _ => ⟨fun w => mis (by omega), fun w10 => ?_⟩⟩, fun w6 => ?_⟩, fun w5 => ?_⟩, fun w4 => ?_⟩⟩, fun w0 => ?_⟩
  · rw [if_neg w0, if_neg (by omega), if_neg w5, if_neg w6, if_pos (by omega)] at aft
    rw [pk_sub (by omega)]
    exact sX_trainT hT qb.2 hA r1 a6 _ aft
  · rw [if_neg w0, if_neg (by omega), if_neg (by omega), if_pos w6] at aft
    exact sX_lockT hT qb.2 hA r1 a6 _ aft
  · rw [if_neg w0, if_neg (by omega), if_pos w5] at aft
    exact sX_guardT hT qb.2 hA r1 _ aft
  · rw [if_neg w0, if_pos (by omega)] at aft
    exact sX_omen hT qb.2 hA r1 _ aft
  · rw [if_pos w0] at aft
    exact sX_blocks hT qb.2 r1 hbt a6 _ aft
