/-! small questions on both sides -/
theorem cInY (z : MX) {j : Nat} (n : Nat) {H : Int64} (eH : (nI n).toInt64 = H) (hn : n < 2 ^ 31) (hj : j ≤ n) {post : Int32 → MX → Prop} (h : post 1 z) : pX8_in z (nI j).toInt64 0 H post :=
  s_iY z (lo := 0) (by decide) eH (nI_pos' (by omega)) (nI_le hj hn) h
theorem cInN (z : MX) {x : Int32} (n : Nat) {H : Int64} (eH : (nI n).toInt64 = H) (hn : n + 1 < 2 ^ 31) (hx : x < 0 ∨ nI (n + 1) ≤ x) {post : Int32 → MX → Prop} (h : post 0 z) : pX8_in z x.toInt64 0 H post := by
  refine s_iN z (lo := 0) (by decide) eH (hx.imp id (fun q => ?_)) h
  exact fa_of_nle (fun w => nI_ge (a := n) (b := n + 1) (by omega) hn (Int32.le_trans q w))
theorem cFactY {z : MX} {j : Nat} (hj : j < 4) {post : Int32 → MX → Prop} (h : post 1 z) : pX7_isFact z (nI j) post := by
  unfold pX7_isFact
  exact ⟨fun c => absurd c (nI_pos (by omega)), fun _ => ⟨fun c => absurd c (nI_ge (a := j) (b := 4) hj (by decide)), fun _ => ⟨Or.inr rfl, h⟩⟩⟩
theorem cFactN {z : MX} {x : Int32} (hx : x < 0 ∨ nI 4 ≤ x) {post : Int32 → MX → Prop} (h : post 0 z) : pX7_isFact z x post := by
  unfold pX7_isFact
  exact ⟨fun _ => ⟨Or.inl rfl, h⟩, fun c => ⟨fun _ => ⟨Or.inl rfl, h⟩, fun d => (hx.elim c d).elim⟩⟩
theorem cFaithY {z : MX} {j : Nat} (hj : j < 4) {post : Int32 → MX → Prop} (h : post 1 z) : pX7_isFaith z (nI j) post := by
  unfold pX7_isFaith
  exact ⟨fun c => absurd c (nI_pos (by omega)), fun _ => ⟨fun c => absurd c (nI_ge (a := j) (b := 4) hj (by decide)), fun _ => ⟨Or.inr rfl, h⟩⟩⟩
theorem cFaithN {z : MX} {x : Int32} (hx : x < 0 ∨ nI 4 ≤ x) {post : Int32 → MX → Prop} (h : post 0 z) : pX7_isFaith z x post := by
  unfold pX7_isFaith
  exact ⟨fun _ => ⟨Or.inl rfl, h⟩, fun c => ⟨fun _ => ⟨Or.inl rfl, h⟩, fun d => (hx.elim c d).elim⟩⟩
theorem cOmenY {z : MX} {j : Nat} (hj : j < 5) {post : Int32 → MX → Prop} (h : post 1 z) : pX7_isOmen z (nI j) post := by
  unfold pX7_isOmen
  exact ⟨fun c => absurd c (nI_pos (by omega)), fun _ => ⟨fun c => absurd c (nI_ge (a := j) (b := 5) hj (by decide)), fun _ => ⟨Or.inr rfl, h⟩⟩⟩
theorem cOmenN {z : MX} {x : Int32} (hx : x < 0 ∨ nI 5 ≤ x) {post : Int32 → MX → Prop} (h : post 0 z) : pX7_isOmen z x post := by
  unfold pX7_isOmen
  exact ⟨fun _ => ⟨Or.inl rfl, h⟩, fun c => ⟨fun _ => ⟨Or.inl rfl, h⟩, fun d => (hx.elim c d).elim⟩⟩
theorem cMinuteY {z : MX} {j : Nat} (hj : j < 120) {post : Int32 → MX → Prop} (h : post 1 z) : pX7_isMinute z (nI j) post := by
  unfold pX7_isMinute
  exact ⟨fun c => absurd c (nI_pos (by omega)), fun _ => ⟨fun c => absurd c (nI_ge (a := j) (b := 120) hj (by decide)), fun _ => ⟨Or.inr rfl, h⟩⟩⟩
theorem cMinuteN {z : MX} {x : Int32} (hx : x < 0 ∨ nI 120 ≤ x) {post : Int32 → MX → Prop} (h : post 0 z) : pX7_isMinute z x post := by
  unfold pX7_isMinute
  exact ⟨fun _ => ⟨Or.inl rfl, h⟩, fun c => ⟨fun _ => ⟨Or.inl rfl, h⟩, fun d => (hx.elim c d).elim⟩⟩
theorem cSheetY {z : MX} {j : Nat} (hj : j < 4) {post : Int32 → MX → Prop} (h : post 1 z) : pX7_isSheet z (nI j) post := by
  unfold pX7_isSheet
  exact ⟨fun c => absurd c (nI_pos (by omega)), fun _ => ⟨fun c => absurd c (nI_ge (a := j) (b := 4) hj (by decide)), fun _ => ⟨Or.inr rfl, h⟩⟩⟩
theorem cSheetN {z : MX} {x : Int32} (hx : x < 0 ∨ nI 4 ≤ x) {post : Int32 → MX → Prop} (h : post 0 z) : pX7_isSheet z x post := by
  unfold pX7_isSheet
  exact ⟨fun _ => ⟨Or.inl rfl, h⟩, fun c => ⟨fun _ => ⟨Or.inl rfl, h⟩, fun d => (hx.elim c d).elim⟩⟩
theorem cLaneY {z : MX} {j : Nat} (hj : j < 3) {post : Int32 → MX → Prop} (h : post 1 z) : pX7_isLane z (nI j) post := by
  unfold pX7_isLane
  exact ⟨fun c => absurd c (nI_pos (by omega)), fun _ => ⟨fun c => absurd c (nI_ge (a := j) (b := 3) hj (by decide)), fun _ => ⟨Or.inr rfl, h⟩⟩⟩
theorem cLaneN {z : MX} {x : Int32} (hx : x < 0 ∨ nI 3 ≤ x) {post : Int32 → MX → Prop} (h : post 0 z) : pX7_isLane z x post := by
  unfold pX7_isLane
  exact ⟨fun _ => ⟨Or.inl rfl, h⟩, fun c => ⟨fun _ => ⟨Or.inl rfl, h⟩, fun d => (hx.elim c d).elim⟩⟩
theorem c01Y {z : MX} {j : Nat} (hj : j < 2) {post : Int32 → MX → Prop} (h : post 1 z) : pX7_isZeroOrOne z (nI j) post := by
  unfold pX7_isZeroOrOne
  match j, hj with
  | 0, _ => exact ⟨fun _ => ⟨Or.inr rfl, h⟩, fun c => absurd rfl c⟩
  | 1, _ => exact ⟨fun _ => ⟨Or.inr rfl, h⟩, fun _ => ⟨fun c => absurd rfl c, fun _ => ⟨Or.inr rfl, h⟩⟩⟩
  | k + 2, h => exact absurd h (by omega)
theorem c01N {z : MX} {x : Int32} (hx : x < 0 ∨ nI 2 ≤ x) {post : Int32 → MX → Prop} (h : post 0 z) : pX7_isZeroOrOne z x post := by
  have h0 : x ≠ 0 := fun e => by rw [e] at hx; exact absurd hx (by decide)
  have h1 : x ≠ 1 := fun e => by rw [e] at hx; exact absurd hx (by decide)
  unfold pX7_isZeroOrOne
  exact ⟨fun c => absurd c h0, fun _ => ⟨fun _ => ⟨Or.inl rfl, h⟩, fun c => absurd c h1⟩⟩
theorem sw_out {x : Int32} {n : Nat} (hn : n + 1 < 2 ^ 31) (hx : x < 0 ∨ nI (n + 1) ≤ x) : x.toInt < 0 ∨ (n : Int) < x.toInt := by
  rcases hx with h | h
  · left
    have := (fa_lt x 0).mp h
    exact this
  · right
    have := (fa_le _ _).mp h
    rw [nI_toInt hn] at this
    omega
theorem sw_in {k n : Nat} (hk : k ≤ n) (hn : n < 2 ^ 31) : ¬ ((nI k).toInt < 0 ∨ (n : Int) < (nI k).toInt) := by
  rw [nI_toInt (by omega)]
  omega
/-- a line with one thing changed -/
def Au (A : AL) (c k v : Nat) : AL := fun a b => if a = c ∧ b = k then v else A a b
theorem Au_g (A : AL) (c k v a b : Nat) : Au A c k v a b = if a = c ∧ b = k then v else A a b := rfl
theorem AOK.g {A : AL} (h : AOK A) {g : Nat} (hg : g < 256) : AOK (Au A 0 3 g) := by
  unfold AOK at h ⊢
  simp only [Au_g]
  simp
  exact ⟨h.1, h.2.1, h.2.2.1, h.2.2.2.1, hg, h.2.2.2.2.2⟩
theorem AOK.o {A : AL} (h : AOK A) {b o : Nat} (hb : b < A 0 0) (ho : o < 5) : AOK (Au A 1 b o) := by
  obtain ⟨h1, h2, h3, h4, h5, h6, h7, h8, h9⟩ := h
  unfold AOK
  simp only [Au_g]
  simp
  refine ⟨h1, h2, h3, h4, h5, fun c hc => ?_, fun c h1 h2 => ?_, h8, h9⟩
  · by_cases e : c = b
    · simp [e, ho]
    · simp [e]; exact h6 c hc
  · have e : c ≠ b := by omega
    simp [e]
    exact h7 c h1 h2
def fB (w : Nat) : Nat := if w = 0 then 4 else if w = 1 then 2 else 10
theorem AOK.f {A : AL} (h : AOK A) {t w v : Nat} (hw : w < 4) (hv : v < fB w) : AOK (Au A 3 (4 * t + w) v) := by
  obtain ⟨h1, h2, h3, h4, h5, h6, h7, h8, h9⟩ := h
  unfold AOK
  simp only [Au_g]
  simp
  refine ⟨h1, h2, h3, h4, h5, h6, h7, h8, fun u hu => ?_⟩
  obtain ⟨g1, g2, g3, g4⟩ := h9 u hu
  unfold fB at hv
  refine ⟨?_, ?_, ?_, ?_⟩
  · by_cases e : 4 * u = 4 * t + w
    · rw [if_pos e]
      have : w = 0 := by omega
      rw [if_pos this] at hv
      exact hv
    · rw [if_neg e]; exact g1
  · by_cases e : 4 * u + 1 = 4 * t + w
    · rw [if_pos e]
      have : w = 1 := by omega
      rw [if_neg (by omega), if_pos this] at hv
      exact hv
    · rw [if_neg e]; exact g2
  · by_cases e : 4 * u + 2 = 4 * t + w
    · rw [if_pos e]
      rw [if_neg (by omega), if_neg (by omega)] at hv
      exact hv
    · rw [if_neg e]; exact g3
  · by_cases e : 4 * u + 3 = 4 * t + w
    · rw [if_pos e]
      rw [if_neg (by omega), if_neg (by omega)] at hv
      exact hv
    · rw [if_neg e]; exact g4
theorem LX.g {i : Nat} {z : MX} {A : AL} (h : LX i z A) (g : Nat) : LX i (mw z (4 * i) 1 (nI g)) (Au A 0 3 g) := by
  obtain ⟨h1, h2, h3, h4, h5, h6, h7⟩ := h
  unfold LX
  simp only [mw_g, Au_g]
  simp
  exact ⟨h1, h3, h4, h5, h6, h7⟩
theorem LX.o {i : Nat} {z : MX} {A : AL} (h : LX i z A) (b o : Nat) : LX i (mw z (4 * i + 1) b (nI o)) (Au A 1 b o) := by
  obtain ⟨h1, h2, h3, h4, h5, h6, h7⟩ := h
  unfold LX
  simp only [mw_g, Au_g]
  simp
  refine ⟨h1, h2, h3, h4, fun c hc => ?_, h6, h7⟩
  by_cases e : c = b
  · simp [e]
  · simp [e]; exact h5 c hc
theorem LX.f {i : Nat} {z : MX} {A : AL} (h : LX i z A) (k v : Nat) : LX i (mw z (4 * i + 3) k (nI v)) (Au A 3 k v) := by
  obtain ⟨h1, h2, h3, h4, h5, h6, h7⟩ := h
  unfold LX
  simp only [mw_g, Au_g]
  simp
  refine ⟨h1, h2, h3, h4, h5, h6, fun t w ht hw => ?_⟩
  by_cases e : 4 * t + w = k
  · simp [e]
  · simp [e]; exact h7 t w ht hw
theorem LM.g {z : MX} {A : AL} (h : LM z A) (g : Nat) : LM (mw z 1 8 (nI g)) (Au A 0 3 g) := by
  obtain ⟨h1, h2, h3, h4, h5, h6, h7, h8⟩ := h
  unfold LM
  simp only [mw_g, Au_g]
  simp
  refine ⟨h1, h2, h3, fun b hb => ?_, h6, fun t w ht hw => ?_, h8⟩
  · rw [if_neg (by omega)]; exact h5 b hb
  · rw [if_neg (by omega)]; exact h7 t w ht hw
theorem LM.o {z : MX} {A : AL} (h : LM z A) {b : Nat} (o : Nat) (hb : b < 8) : LM (mw z 1 b (nI o)) (Au A 1 b o) := by
  obtain ⟨h1, h2, h3, h4, h5, h6, h7, h8⟩ := h
  unfold LM
  simp only [mw_g, Au_g]
  simp
  refine ⟨h1, h2, h3, ?_, fun c hc => ?_, h6, fun t w ht hw => ?_, h8⟩
  · rw [if_neg (by omega)]; exact h4
  · by_cases e : c = b
    · simp [e]
    · simp [e]; exact h5 c hc
  · rw [if_neg (by omega)]; exact h7 t w ht hw
theorem LM.f {z : MX} {A : AL} (h : LM z A) {t w : Nat} (v : Nat) (hT : A 0 1 ≤ 4) (ht : t < A 0 1) (hw : w < 4) : LM (mw z 1 (9 + 4 * w + t) (nI v)) (Au A 3 (4 * t + w) v) := by
  obtain ⟨h1, h2, h3, h4, h5, h6, h7, h8⟩ := h
  unfold LM
  simp only [mw_g, Au_g]
  simp
  refine ⟨h1, h2, h3, ?_, fun c hc => ?_, h6, fun u x hu hx => ?_, h8⟩
  · rw [if_neg (by omega)]; exact h4
  · rw [if_neg (by omega)]; exact h5 c hc
  · by_cases e : 4 * u + x = 4 * t + w
    · have e1 : u = t := by omega
      have e2 : x = w := by omega
      simp [e1, e2]
    · rw [if_neg (by omega), if_neg e]; exact h7 u x hu hx
theorem SameL.u {A A2 : AL} (h : SameL A A2) {c k v : Nat} (hc : c = 1 ∨ c = 3 ∨ c = 0 ∧ k = 3) : SameL (Au A c k v) A2 := by
  unfold SameL at h ⊢
  have e : Au A c k v 2 = A 2 := by funext b; rw [Au_g, if_neg (by omega)]
  rw [e, Au_g, Au_g, Au_g, if_neg (by omega), if_neg (by omega), if_neg (by omega)]
  exact h
theorem ImgR.u {A : AL} {zx zm : MX} (h : ImgR A zx zm) {c k v : Nat} (hc : c = 1 ∨ c = 3 ∨ c = 0 ∧ k = 3) : ImgR (Au A c k v) zx zm := by
  intro j hj
  obtain ⟨u1, u2⟩ := h j hj
  exact ⟨u1, u2.imp id (fun ⟨u3, A2, a1, a2, a3⟩ => ⟨u3, A2, a1, a2.u hc, a3⟩)⟩
/-- the line alone has changed, on both sides -/
theorem Rel.line {zx zm : MX} {A2 : AL} {cx kx km : Nat} {vx vm : Int32} (hI : ImgR A2 zx zm) (e : TapeR zx zm) (f : SeenR zx zm) (g : ShtR zx zm) (i : CstR zm) (j : zx.1 38 10 = zm.1 0 16) (k : zx.1 38 11 = zm.1 0 44) (h1 : AOK A2) (hc : cx < 4) (hk : km < 25) (h2 : LX 0 (mw zx cx kx vx) A2) (h3 : LM (mw zm 1 km vm) A2) : Rel (mw zx cx kx vx) (mw zm 1 km vm) := by
  refine ⟨A2, h1, h2, h3, ?_, ?_, ?_, ?_, ?_, ?_, ?_⟩
  · exact hI.e (by rw [mw_n _ _ _ (by omega)]) (fun c h1 h2 => by rw [mw_n _ _ _ (by omega)]) (by rw [mw_n _ _ _ (by decide)]) (fun q h1 h2 => by rw [mw_k _ _ (by omega)])
  · exact e.e (by rw [mw_n _ _ _ (by omega)]) (by rw [mw_n _ _ _ (by omega)]) (by rw [mw_n _ _ _ (by decide)]) (by rw [mw_n _ _ _ (by decide)])
  · exact f.e (by rw [mw_n _ _ _ (by omega)]) (fun c h1 h2 => by rw [mw_n _ _ _ (by omega)]) (by rw [mw_n _ _ _ (by decide)]) (by rw [mw_n _ _ _ (by decide)])
  · exact g.e (fun c h1 h2 => by rw [mw_n _ _ _ (by omega)]) (fun c h1 h2 => by rw [mw_n _ _ _ (by omega)])
  · exact i.e (by rw [mw_n _ _ _ (by decide)]) (by rw [mw_n _ _ _ (by decide)])
  · rw [mw_n _ _ _ (by omega), mw_n _ _ _ (by decide)]; exact j
  · rw [mw_n _ _ _ (by omega), mw_n _ _ _ (by decide)]; exact k
theorem q_rule {zx zm : MX} (h : Rel zx zm) (x : Int32) : pX7_rule zx x (fun r zx1 => pX8_rule zm x (fun r2 zm1 => r = r2 ∧ Rel zx1 zm1)) := by
  have h0 := h
  obtain ⟨A, a, b, c, d, e, f, g, i, j, k⟩ := h
  unfold pX7_rule pX8_rule
  rcases ix x (n := 5) (by decide) with hx | ⟨y, hy, rfl⟩
  · have so := sw_out (n := 4) (by decide) hx
    have ne : ∀ v : Int32, (0 ≤ v ∧ v < 5) → x ≠ v := fun v hv e => by
      rw [e, show nI 5 = (5 : Int32) from rfl] at hx
      grind
    have bad : (x.toInt < 0 ∨ 4 < x.toInt → (-1 : Int32) = -1 ∧ Rel zx zm) ∧ (x = 0 → (-1 : Int32) = zm.1 0 1 ∧ Rel zx zm) ∧ (x = 1 → (-1 : Int32) = zm.1 0 2 ∧ Rel zx zm) ∧ (x = 2 → (-1 : Int32) = zm.1 0 4 ∧ Rel zx zm) ∧ (x = 3 → vp_in 8 125 ∧ (-1 : Int32) = zm.1 1 (Int32.toNatClampNeg 8) ∧ Rel zx zm) ∧ (x = 4 → pX8_omens zm fun r60 z60 => (-1 : Int32) = r60 ∧ Rel zx z60) :=
      ⟨fun _ => ⟨rfl, h0⟩, fun q => absurd q (ne 0 (by decide)), fun q => absurd q (ne 1 (by decide)), fun q => absurd q (ne 2 (by decide)), fun q => absurd q (ne 3 (by decide)), fun q => absurd q (ne 4 (by decide))⟩
    exact ⟨fun _ => bad, fun q => absurd q (ne 0 (by decide)), fun q => absurd q (ne 1 (by decide)), fun q => absurd q (ne 2 (by decide)), fun q => absurd q (ne 3 (by decide)), fun q => absurd q (ne 4 (by decide))⟩
  · have si := sw_in (k := y) (n := 4) (by omega) (by decide)
    match y, hy with
    | 0, _ => exact ⟨fun q => absurd q si, fun _ => ⟨fun q => absurd q si, fun _ => ⟨by rw [b.1, c.1], h0⟩, fun q => absurd q (by decide), fun q => absurd q (by decide), fun q => absurd q (by decide), fun q => absurd q (by decide)⟩, fun q => absurd q (by decide), fun q => absurd q (by decide), fun q => absurd q (by decide), fun q => absurd q (by decide)⟩
    | 1, _ => exact ⟨fun q => absurd q si, fun q => absurd q (by decide), fun _ => ⟨fun q => absurd q si, fun q => absurd q (by decide), fun _ => ⟨by rw [b.2.2.2.1, c.2.1], h0⟩, fun q => absurd q (by decide), fun q => absurd q (by decide), fun q => absurd q (by decide)⟩, fun q => absurd q (by decide), fun q => absurd q (by decide), fun q => absurd q (by decide)⟩
    | 2, _ => exact ⟨fun q => absurd q si, fun q => absurd q (by decide), fun q => absurd q (by decide), fun _ => ⟨fun q => absurd q si, fun q => absurd q (by decide), fun q => absurd q (by decide), fun _ => ⟨by rw [b.2.2.1, c.2.2.1], h0⟩, fun q => absurd q (by decide), fun q => absurd q (by decide)⟩, fun q => absurd q (by decide), fun q => absurd q (by decide)⟩
    | 3, _ => exact ⟨fun q => absurd q si, fun q => absurd q (by decide), fun q => absurd q (by decide), fun q => absurd q (by decide), fun _ => ⟨fun q => absurd q si, fun q => absurd q (by decide), fun q => absurd q (by decide), fun q => absurd q (by decide), fun _ => ⟨vp_in_nI (n := 8) (by omega) (by decide), by rw [b.2.1]; exact c.2.2.2.1.symm, h0⟩, fun q => absurd q (by decide)⟩, fun q => absurd q (by decide)⟩
    | 4, _ => exact ⟨fun q => absurd q si, fun q => absurd q (by decide), fun q => absurd q (by decide), fun q => absurd q (by decide), fun q => absurd q (by decide), fun _ => sX_omenBits b.2.2.2.2.1 a.2.2.2.2.2.1 _ ⟨fun q => absurd q si, fun q => absurd q (by decide), fun q => absurd q (by decide), fun q => absurd q (by decide), fun q => absurd q (by decide), fun _ => sM_omens c a _ ⟨rfl, h0⟩⟩⟩
    | y + 5, hy => exact absurd hy (by omega)
theorem q_block {zx zm : MX} (h : Rel zx zm) (x w : Int32) : pX7_block zx x w (fun r zx1 => pX8_block zm x w (fun r2 zm1 => r = r2 ∧ Rel zx1 zm1)) := by
  have h0 := h
  obtain ⟨A, a, b, c, d, e, f, g, i, j, k⟩ := h
  have hB := a.2.1
  unfold pX7_block pX8_block
  rcases ix x (n := A 0 0) (by omega) with hx | ⟨y, hy, rfl⟩
  · exact sX_blkN b hx ⟨fun q => absurd rfl q, fun _ => sM_blkN c a hx ⟨fun _ => ⟨rfl, h0⟩, fun q => absurd rfl q⟩⟩
  · refine sX_blkY b a hy ⟨fun _ => ?_, fun q => absurd q (by decide)⟩
    rcases ix w (n := 3) (by decide) with hw | ⟨v, hv, rfl⟩
    · have so := sw_out (n := 2) (by decide) hw
      have ne : ∀ v : Int32, (0 ≤ v ∧ v < 3) → w ≠ v := fun v hv e => by
        rw [e, show nI 3 = (3 : Int32) from rfl] at hw
        grind
      exact ⟨fun _ => sM_blkY c a hy ⟨fun q => absurd q (by decide), fun _ => cInN zm 2 (by decide) (by decide) hw ⟨fun q => absurd rfl q, fun _ => ⟨rfl, h0⟩⟩⟩, fun q => absurd q (ne 0 (by decide)), fun q => absurd q (ne 1 (by decide)), fun q => absurd q (ne 2 (by decide))⟩
    · have si := sw_in (k := v) (n := 2) (by omega) (by decide)
      match v, hv with
      | 0, _ =>
        refine ⟨fun q => absurd q si, fun _ => ⟨vp_in_nI (by omega) (by decide), sM_blkY c a hy ⟨fun q => absurd q (by decide), fun _ => cInY zm 2 (by decide) (by decide) (by omega) ⟨fun _ => ⟨fun q => absurd rfl q, fun _ => ⟨vp_in_nI (by omega) (by decide), ?_, h0⟩⟩, fun q => absurd q (by decide)⟩⟩⟩, fun q => absurd q (by decide), fun q => absurd q (by decide)⟩
        rw [nI_clamp (by omega), b.2.2.2.2.1 y (by omega), c.2.2.2.2.1 y (by omega)]
      | 1, _ =>
        refine ⟨fun q => absurd q si, fun q => absurd q (by decide), fun _ => s_guarded b _ _ ?_, fun q => absurd q (by decide)⟩
        have fin : ∀ v, v = (nI (A 0 3) >>> (nI y &&& 31)) &&& 1 → pX8_isBlock zm (nI y) (fun (r2 : Int32) (z2 : MX) => ((r2 = 0 → v = (-1 : Int32) ∧ Rel zx z2) ∧ (¬ r2 = 0 → pX8_in z2 (Int32.toInt64 (nI 1)) (0 : Int64) (2 : Int64) (fun (r14 : Int32) (z14 : MX) => ((¬ r14 = 0 → ((¬ nI 1 = 0 → ((¬ nI 1 = (1 : Int32) → pX8_lockedWith z14 (nI y) (fun (r56 : Int32) (z56 : MX) => v = r56 ∧ Rel zx z56)) ∧ (nI 1 = (1 : Int32) → vp_in (8 : Int32) 125 ∧ v = (((z14.1 1 (Int32.toNatClampNeg (8 : Int32))) >>> (nI y &&& 31)) &&& (1 : Int32)) ∧ Rel zx z14))) ∧ (nI 1 = 0 → vp_in (nI y) 125 ∧ v = (z14.1 1 (Int32.toNatClampNeg (nI y))) ∧ Rel zx z14))) ∧ (r14 = 0 → v = (-1 : Int32) ∧ Rel zx z14)))))) := by
          intro v hv
          refine sM_blkY c a hy ⟨fun q => absurd q (by decide), fun _ => cInY zm 2 (by decide) (by decide) (by omega) ⟨fun _ => ⟨fun _ => ⟨fun q => absurd rfl q, fun _ => ⟨vp_in_nI (n := 8) (by omega) (by decide), ?_, h0⟩⟩, fun q => absurd q (by decide)⟩, fun q => absurd q (by decide)⟩⟩
          rw [hv, show Int32.toNatClampNeg (8 : Int32) = 8 from rfl, c.2.2.2.1]
        refine ⟨fun q => fin 0 q.symm, fun q => fin 1 ?_⟩
        rcases pk_1or (x := nI (A 0 3) >>> (nI y &&& 31)) with e | e
        · exact absurd e q
        · exact e.symm
      | 2, _ =>
        refine ⟨fun q => absurd q si, fun q => absurd q (by decide), fun q => absurd q (by decide), fun _ => sX_lockedWith b a (by omega) _ (sM_blkY c a hy ⟨fun q => absurd q (by decide), fun _ => cInY zm 2 (by decide) (by decide) (by omega) ⟨fun _ => ⟨fun _ => ⟨fun _ => sM_lockedWith c a (by omega) _ ⟨rfl, h0⟩, fun q => absurd q (by decide)⟩, fun q => absurd q (by decide)⟩, fun q => absurd q (by decide)⟩⟩)⟩
      | v + 3, hv => exact absurd hv (by omega)
theorem q_lock {zx zm : MX} (h : Rel zx zm) (x w : Int32) : pX7_lock zx x w (fun r zx1 => pX8_lock zm x w (fun r2 zm1 => r = r2 ∧ Rel zx1 zm1)) := by
  have h0 := h
  obtain ⟨A, a, b, c, d, e, f, g, i, j, k⟩ := h
  have hN := a.2.2.2.1
  unfold pX7_lock pX8_lock
  rw [b.2.2.1, c.2.2.1]
  rcases ix x (n := A 0 2) (by omega) with hx | ⟨y, hy, rfl⟩
  · have bad : ∀ post : Int32 → MX → Prop, post 0 zm → pX8_in zm x.toInt64 0 (Int32.toInt64 (nI (A 0 2) - 1)) post := by
      intro post hp
      by_cases e : A 0 2 = 0
      · rw [e] at hx ⊢
        refine s_iN zm (lo := 0) (hi := nI 0 - 1) (by decide) rfl ?_ hp
        have : nI 0 - 1 = (-1 : Int32) := by decide
        rw [this]
        rw [nI_0] at hx
        grind
      · have e1 : nI (A 0 2) - 1 = nI (A 0 2 - 1) := nI_m1 (by omega)
        rw [e1]
        exact cInN zm (A 0 2 - 1) rfl (by omega) (by rw [show A 0 2 - 1 + 1 = A 0 2 by omega]; exact hx) hp
    exact ⟨fun _ => bad _ ⟨fun _ => ⟨rfl, h0⟩, fun q => absurd rfl q⟩, fun q1 => ⟨fun _ => bad _ ⟨fun _ => ⟨rfl, h0⟩, fun q => absurd rfl q⟩, fun q2 => (hx.elim q1 q2).elim⟩⟩
  · have e1 : nI (A 0 2) - 1 = nI (A 0 2 - 1) := nI_m1 (by omega)
    rw [e1]
    refine ⟨fun q => absurd q (nI_pos (by omega)), fun _ => ⟨fun q => absurd q (nI_ge hy (by omega)), fun _ => ?_⟩⟩
    have yes : ∀ post : Int32 → MX → Prop, post 1 zm → pX8_in zm (nI y).toInt64 0 (Int32.toInt64 (nI (A 0 2 - 1))) post := fun post hp => cInY zm (A 0 2 - 1) rfl (by omega) (by omega) hp
    rcases ix w (n := 2) (by decide) with hw | ⟨v, hv, rfl⟩
    · have bad := fun post hp => cInN zm (x := w) 1 (H := 1) (by decide) (by decide) hw (post := post) hp
      refine ⟨fun _ => yes _ ⟨fun q => absurd q (by decide), fun _ => bad _ ⟨fun _ => ⟨rfl, h0⟩, fun q => absurd rfl q⟩⟩, fun q1 => ⟨fun q2 => ?_, fun _ => yes _ ⟨fun q => absurd q (by decide), fun _ => bad _ ⟨fun _ => ⟨rfl, h0⟩, fun q => absurd rfl q⟩⟩⟩⟩
      rw [show nI 2 = (2 : Int32) from rfl] at hw
      grind
    · have e2 : (2 : Int32) * nI y + nI v = nI (2 * y + v) := by rw [show (2 : Int32) = nI 2 from rfl, pk_mul, nI_add]
      rw [e2, nI_clamp (n := 2 * y + v) (by omega)]
      refine ⟨fun q => absurd q (nI_pos (by omega)), fun _ => ⟨fun _ => ⟨vp_in_nI (by omega) (by decide), yes _ ⟨fun q => absurd q (by decide), fun _ => cInY zm 1 (by decide) (by decide) (by omega) ⟨fun q => absurd q (by decide), fun _ => ⟨vp_in_nI (by omega) (by decide), ?_, h0⟩⟩⟩⟩, fun q => absurd (nI_le (a := v) (b := 1) (by omega) (by decide)) q⟩⟩
      rw [b.2.2.2.2.2.1 _ (by omega), c.2.2.2.2.2.1 _ (by omega)]
theorem q_train {zx zm : MX} (h : Rel zx zm) (x w : Int32) : pX7_train zx x w (fun r zx1 => pX8_train zm x w (fun r2 zm1 => r = r2 ∧ Rel zx1 zm1)) := by
  have h0 := h
  obtain ⟨A, a, b, c, d, e, f, g, i, j, k⟩ := h
  have hT := a.2.2.1
  unfold pX7_train pX8_train
  rcases ix x (n := A 0 1) (by omega) with hx | ⟨y, hy, rfl⟩
  · exact sX_trN b hx ⟨fun _ => sM_trN c a hx ⟨fun _ => ⟨rfl, h0⟩, fun q => absurd rfl q⟩, fun q => absurd rfl q⟩
  · refine sX_trY b a hy ⟨fun q => absurd q (by decide), fun _ => ?_⟩
    rcases ix w (n := 4) (by decide) with hw | ⟨v, hv, rfl⟩
    · exact cFactN hw ⟨fun q => absurd rfl q, fun _ => sM_trY c a hy ⟨fun q => absurd q (by decide), fun _ => cInN zm 3 (by decide) (by decide) hw ⟨fun _ => ⟨rfl, h0⟩, fun q => absurd rfl q⟩⟩⟩
    · have e2 : ((9 : Int32) + (4 : Int32) * nI v) + nI y = nI (9 + 4 * v + y) := by rw [show (9 : Int32) = nI 9 from rfl, show (4 : Int32) = nI 4 from rfl, pk_mul, nI_add, nI_add]
      refine cFactY hv ⟨fun _ => s_fact b hT hy hv _ (sM_trY c a hy ⟨fun q => absurd q (by decide), fun _ => cInY zm 3 (by decide) (by decide) (by omega) ⟨fun q => absurd q (by decide), fun _ => ?_⟩⟩), fun q => absurd q (by decide)⟩
      rw [e2, nI_clamp (by omega)]
      exact ⟨vp_in_nI (by omega) (by decide), (c.2.2.2.2.2.2.1 y v hy hv).symm, h0⟩
theorem q_waits {zx zm : MX} (h : Rel zx zm) (x w : Int32) : pX7_waits zx x w (fun r zx1 => pX8_waits zm x w (fun r2 zm1 => r = r2 ∧ Rel zx1 zm1)) := by
  have h0 := h
  obtain ⟨A, a, b, c, d, e, f, g, i, j, k⟩ := h
  unfold pX7_waits pX8_waits
  rcases ix x (n := 4) (by decide) with hx | ⟨y, hy, rfl⟩
  · exact cFaithN hx ⟨fun _ => cInN zm 3 (by decide) (by decide) hx ⟨fun _ => ⟨rfl, h0⟩, fun q => absurd rfl q⟩, fun q => absurd rfl q⟩
  · refine cFaithY hy ⟨fun q => absurd q (by decide), fun _ => ?_⟩
    rcases ix w (n := 5) (by decide) with hw | ⟨v, hv, rfl⟩
    · exact cOmenN hw ⟨fun q => absurd rfl q, fun _ => cInY zm 3 (by decide) (by decide) (by omega) ⟨fun q => absurd q (by decide), fun _ => cInN zm 4 (by decide) (by decide) hw ⟨fun _ => ⟨rfl, h0⟩, fun q => absurd rfl q⟩⟩⟩
    · refine cOmenY hv ⟨fun _ => ?_, fun q => absurd q (by decide)⟩
      unfold pX7_minutesFor
      have e1 : nI y * (5 : Int32) + nI v = nI (5 * y + v) := by rw [show (5 : Int32) = nI 5 from rfl, pk_mul, nI_add, Nat.mul_comm]
      have e2 : (5 : Int32) * nI y + nI v = nI (5 * y + v) := by rw [show (5 : Int32) = nI 5 from rfl, pk_mul, nI_add]
      rw [e1, nI_clamp (by omega)]
      refine ⟨vp_in_nI (by omega) (by decide), cInY zm 3 (by decide) (by decide) (by omega) ⟨fun q => absurd q (by decide), fun _ => cInY zm 4 (by decide) (by decide) (by omega) ⟨fun q => absurd q (by decide), fun _ => ?_⟩⟩⟩
      rw [e2, nI_clamp (by omega)]
      exact ⟨vp_in_nI (by omega) (by decide), (c.2.2.2.2.2.2.2 _ (by omega)).symm, h0⟩
