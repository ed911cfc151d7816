/-! THE RELATION of the class's state and the reference's -/
def TapeR (zx zm : MX) : Prop := ∃ n, n ≤ 160 ∧ zx.1 24 1 = nI n ∧ zm.1 0 15 = nI n ∧ ∀ k, k < n → zx.1 25 k = zm.1 6 k ∧ ∃ c, c < 128 ∧ zm.1 6 k = nI c
def SeenR (zx zm : MX) : Prop := ∃ n, n ≤ 6 ∧ zx.1 33 6 = nI n ∧ zm.1 0 37 = nI n ∧ ∀ k, k < n → zx.1 34 k = zm.1 14 (3 * k) ∧ zx.1 35 k = zm.1 14 (3 * k + 1) ∧ zx.1 36 k = zm.1 14 (3 * k + 2) ∧ ∃ m, m < 120 ∧ zm.1 14 (3 * k + 1) = nI m
def LMp (o : Nat) (z : MX) (A : AL) : Prop := z.1 1 (o + 8) = nI (A 0 3) ∧ (∀ b, b < 8 → z.1 1 (o + b) = nI (A 1 b)) ∧ (∀ t w, t < A 0 1 → w < 4 → z.1 1 (o + 9 + 4 * w + t) = nI (A 3 (4 * t + w)))
def SameL (A A2 : AL) : Prop := A2 0 0 = A 0 0 ∧ A2 0 1 = A 0 1 ∧ A2 0 2 = A 0 2 ∧ A2 2 = A 2
def ImgR (A : AL) (zx zm : MX) : Prop := ∀ k, k < 2 → zx.1 40 k = zm.1 16 k ∧ (zm.1 16 k = 0 ∨ zm.1 16 k = 1 ∧ ∃ A2, AOK A2 ∧ SameL A A2 ∧ LX (2 + k) zx A2 ∧ LMp (25 * (k + 1)) zm A2)
def ShtR (zx zm : MX) : Prop := ∀ j, j < 4 → (zx.1 (16 + 2 * j) 2 = -1 ∧ zm.1 17 j = -4) ∨ ∃ l n, l < 3 ∧ n ≤ 40 ∧ zx.1 (16 + 2 * j) 1 = nI l ∧ zx.1 (16 + 2 * j) 2 = nI n ∧ zm.1 17 j = nI l ∧ zm.1 18 j = nI n ∧ ∀ i, i < 40 → zx.1 (17 + 2 * j) i = zm.1 19 (40 * j + i)
def mCuts (k : Nat) : Int32 := ([0, 6, 11, 14, 20, 25, 32, 38, 45, 51, 56, 60, 62, 66] : List Int32).getD k 0
def mLets (k : Nat) : Int32 := ([109, 97, 103, 112, 105, 101, 115, 119, 101, 101, 112, 99, 97, 116, 104, 101, 97, 114, 115, 101, 112, 108, 97, 105, 110, 115, 99, 101, 112, 116, 105, 99, 100, 101, 118, 111, 117, 116, 104, 101, 97, 116, 104, 101, 110, 98, 108, 111, 99, 107, 115, 103, 117, 97, 114, 100, 108, 111, 99, 107, 117, 112, 100, 111, 119, 110] : List Int32).getD k 0
def CstR (zm : MX) : Prop := (∀ k, k < 14 → zm.1 7 k = mCuts k) ∧ (∀ k, k < 66 → zm.1 8 k = mLets k)
def Rel (zx zm : MX) : Prop := ∃ A : AL, AOK A ∧ LX 0 zx A ∧ LM zm A ∧ ImgR A zx zm ∧ TapeR zx zm ∧ SeenR zx zm ∧ ShtR zx zm ∧ CstR zm ∧ zx.1 38 10 = zm.1 0 16 ∧ zx.1 38 11 = zm.1 0 44
/-- what may change unseen -/
def NX (z z1 : MX) : Prop := (∀ c, c < 4 ∨ 8 ≤ c ∧ c ≤ 23 ∨ c = 25 ∨ 34 ≤ c ∧ c ≤ 36 ∨ c = 38 ∨ c = 40 → z1.1 c = z.1 c) ∧ z1.1 24 1 = z.1 24 1 ∧ z1.1 33 6 = z.1 33 6
def NM (z z1 : MX) : Prop := (∀ c, c = 2 ∨ c = 3 ∨ 6 ≤ c ∧ c ≤ 8 ∨ c = 14 ∨ 16 ≤ c ∧ c ≤ 19 → z1.1 c = z.1 c) ∧ (∀ k, k = 1 ∨ k = 2 ∨ k = 4 ∨ k = 15 ∨ k = 16 ∨ k = 37 ∨ k = 44 → z1.1 0 k = z.1 0 k) ∧ (∀ k, k < 75 → z1.1 1 k = z.1 1 k)
theorem NX.rf (z : MX) : NX z z := ⟨fun _ _ => rfl, rfl, rfl⟩
theorem NM.rf (z : MX) : NM z z := ⟨fun _ _ => rfl, fun _ _ => rfl, fun _ _ => rfl⟩
theorem NX.tr {z z1 z2 : MX} (h : NX z z1) (h2 : NX z1 z2) : NX z z2 := ⟨fun c hc => (h2.1 c hc).trans (h.1 c hc), h2.2.1.trans h.2.1, h2.2.2.trans h.2.2⟩
theorem NM.tr {z z1 z2 : MX} (h : NM z z1) (h2 : NM z1 z2) : NM z z2 := ⟨fun c hc => (h2.1 c hc).trans (h.1 c hc), fun k hk => (h2.2.1 k hk).trans (h.2.1 k hk), fun k hk => (h2.2.2 k hk).trans (h.2.2 k hk)⟩
theorem NX.of {lo hi : Nat} {z z1 : MX} (h : fr lo hi z z1) (hd : 4 ≤ lo ∧ hi ≤ 7 ∨ 26 ≤ lo ∧ hi ≤ 32 ∨ 37 ≤ lo ∧ hi ≤ 37) : NX z z1 := ⟨fun c hc => h.1 c (by omega), by rw [h.1 24 (by omega)], by rw [h.1 33 (by omega)]⟩
theorem NM.of {z z1 : MX} (h : frM z z1) : NM z z1 := ⟨fun c hc => h.1 c (by omega) (by omega), fun k hk => h.2.1 k (by omega), fun k _ => by rw [h.1 1 (by omega) (by omega)]⟩
theorem LX.N {i : Nat} {z z1 : MX} {A : AL} (h : LX i z A) (hN : NX z z1) (hi : i = 0 ∨ i = 2 ∨ i = 3) : LX i z1 A := by
  unfold LX
  rw [hN.1 (4 * i) (by omega), hN.1 (4 * i + 1) (by omega), hN.1 (4 * i + 2) (by omega), hN.1 (4 * i + 3) (by omega)]
  exact h
theorem LM.N {z z1 : MX} {A : AL} (h : LM z A) (hN : NM z z1) (hT : A 0 1 ≤ 4) : LM z1 A := by
  obtain ⟨h1, h2, h3, h4, h5, h6, h7, h8⟩ := h
  exact ⟨by rw [hN.2.1 1 (by omega)]; exact h1, by rw [hN.2.1 2 (by omega)]; exact h2, by rw [hN.2.1 4 (by omega)]; exact h3, by rw [hN.2.2 8 (by omega)]; exact h4, fun b hb => by rw [hN.2.2 b (by omega)]; exact h5 b hb, by rw [hN.1 2 (by omega)]; exact h6, fun t w ht hw => by rw [hN.2.2 _ (by omega)]; exact h7 t w ht hw, by rw [hN.1 3 (by omega)]; exact h8⟩
theorem LMp.N {o : Nat} {z z1 : MX} {A : AL} (h : LMp o z A) (hN : ∀ k, k < 75 → z1.1 1 k = z.1 1 k) (hT : A 0 1 ≤ 4) (ho : o ≤ 50) : LMp o z1 A :=
  ⟨by rw [hN _ (by omega)]; exact h.1, fun b hb => by rw [hN _ (by omega)]; exact h.2.1 b hb, fun t w ht hw => by rw [hN _ (by omega)]; exact h.2.2 t w ht hw⟩
theorem ImgR.N {A : AL} {zx zx1 zm zm1 : MX} (h : ImgR A zx zm) (hA : AOK A) (hx : NX zx zx1) (hm : NM zm zm1) : ImgR A zx1 zm1 := by
  intro k hk
  obtain ⟨h1, h2⟩ := h k hk
  rw [hx.1 40 (by omega), hm.1 16 (by omega)]
  refine ⟨h1, ?_⟩
  rcases h2 with h2 | ⟨h2, A2, a1, a2, a3, a4⟩
  · exact Or.inl h2
  · exact Or.inr ⟨h2, A2, a1, a2, a3.N hx (by omega), a4.N hm.2.2 a1.2.2.1 (by omega)⟩
theorem TapeR.N {zx zx1 zm zm1 : MX} (h : TapeR zx zm) (hx : NX zx zx1) (hm : NM zm zm1) : TapeR zx1 zm1 := by
  unfold TapeR
  rw [hx.2.1, hx.1 25 (by omega), hm.2.1 15 (by omega), hm.1 6 (by omega)]
  exact h
theorem SeenR.N {zx zx1 zm zm1 : MX} (h : SeenR zx zm) (hx : NX zx zx1) (hm : NM zm zm1) : SeenR zx1 zm1 := by
  unfold SeenR
  rw [hx.2.2, hx.1 34 (by omega), hx.1 35 (by omega), hx.1 36 (by omega), hm.2.1 37 (by omega), hm.1 14 (by omega)]
  exact h
theorem ShtR.N {zx zx1 zm zm1 : MX} (h : ShtR zx zm) (hx : NX zx zx1) (hm : NM zm zm1) : ShtR zx1 zm1 := by
  intro j hj
  have h := h j hj
  rw [hx.1 (16 + 2 * j) (by omega), hx.1 (17 + 2 * j) (by omega), hm.1 17 (by omega), hm.1 18 (by omega), hm.1 19 (by omega)]
  exact h
theorem CstR.N {zm zm1 : MX} (h : CstR zm) (hm : NM zm zm1) : CstR zm1 := by
  unfold CstR
  rw [hm.1 7 (by omega), hm.1 8 (by omega)]
  exact h
theorem Rel.N {zx zx1 zm zm1 : MX} (h : Rel zx zm) (hx : NX zx zx1) (hm : NM zm zm1) : Rel zx1 zm1 := by
  obtain ⟨A, a, b, c, d, e, f, g, i, j, k⟩ := h
  refine ⟨A, a, b.N hx (Or.inl rfl), c.N hm a.2.2.1, d.N a hx hm, e.N hx hm, f.N hx hm, g.N hx hm, i.N hm, ?_, ?_⟩
  · rw [hx.1 38 (by omega), hm.2.1 16 (by omega)]; exact j
  · rw [hx.1 38 (by omega), hm.2.1 44 (by omega)]; exact k
theorem ix (x : Int32) {n : Nat} (hn : n < 2 ^ 31) : (x < 0 ∨ nI n ≤ x) ∨ ∃ j, j < n ∧ x = nI j := by
  rcases pk_ix x hn with h | h | h
  · exact Or.inl (Or.inl h)
  · exact Or.inl (Or.inr h)
  · exact Or.inr h
theorem s_iY (z : MX) {x lo hi : Int32} {L H : Int64} (eL : lo.toInt64 = L) (eH : hi.toInt64 = H) {post : Int32 → MX → Prop} (h1 : lo ≤ x) (h2 : x ≤ hi) (h : post 1 z) : pX8_in z x.toInt64 L H post := by
  subst eL
  subst eH
  exact s_inY z post h1 h2 h
theorem s_iN (z : MX) {x lo hi : Int32} {L H : Int64} (eL : lo.toInt64 = L) (eH : hi.toInt64 = H) {post : Int32 → MX → Prop} (h1 : x < lo ∨ hi < x) (h : post 0 z) : pX8_in z x.toInt64 L H post := by
  subst eL
  subst eH
  exact s_inN z post h1 h
theorem sX_blkY {i : Nat} {z : MX} {A : AL} (hL : LX i z A) (hA : AOK A) {b : Nat} (hb : b < A 0 0) {post : Int32 → MX → Prop} (h : post 1 z) : pX0_isBlock i z (nI b) post := by
  have := hA.2.1
  unfold pX0_isBlock
  rw [hL.1]
  exact ⟨fun c => absurd c (nI_pos (by omega)), fun _ => ⟨fun c => absurd c (nI_ge hb (by omega)), fun _ => ⟨Or.inr rfl, h⟩⟩⟩
theorem sX_blkN {i : Nat} {z : MX} {A : AL} (hL : LX i z A) {x : Int32} (hx : x < 0 ∨ nI (A 0 0) ≤ x) {post : Int32 → MX → Prop} (h : post 0 z) : pX0_isBlock i z x post := by
  unfold pX0_isBlock
  rw [hL.1]
  exact ⟨fun _ => ⟨Or.inl rfl, h⟩, fun c => ⟨fun _ => ⟨Or.inl rfl, h⟩, fun d => (hx.elim c d).elim⟩⟩
theorem sX_trY {i : Nat} {z : MX} {A : AL} (hL : LX i z A) (hA : AOK A) {t : Nat} (ht : t < A 0 1) {post : Int32 → MX → Prop} (h : post 1 z) : pX0_isTrain i z (nI t) post := by
  have := hA.2.2.1
  unfold pX0_isTrain
  rw [hL.2.2.2.1]
  exact ⟨fun c => absurd c (nI_pos (by omega)), fun _ => ⟨fun c => absurd c (nI_ge ht (by omega)), fun _ => ⟨Or.inr rfl, h⟩⟩⟩
theorem sX_trN {i : Nat} {z : MX} {A : AL} (hL : LX i z A) {x : Int32} (hx : x < 0 ∨ nI (A 0 1) ≤ x) {post : Int32 → MX → Prop} (h : post 0 z) : pX0_isTrain i z x post := by
  unfold pX0_isTrain
  rw [hL.2.2.2.1]
  exact ⟨fun _ => ⟨Or.inl rfl, h⟩, fun c => ⟨fun _ => ⟨Or.inl rfl, h⟩, fun d => (hx.elim c d).elim⟩⟩
theorem sM_blkY {z : MX} {A : AL} (hL : LM z A) (hA : AOK A) {b : Nat} (hb : b < A 0 0) {post : Int32 → MX → Prop} (h : post 1 z) : pX8_isBlock z (nI b) post := by
  have := hA.2.1
  unfold pX8_isBlock
  rw [hL.1, nI_m1 (by omega)]
  exact s_iY z (lo := 0) (by decide) rfl (nI_pos' (by omega)) (nI_le (by omega) (by omega)) ⟨Or.inr rfl, h⟩
theorem sM_blkN {z : MX} {A : AL} (hL : LM z A) (hA : AOK A) {x : Int32} (hx : x < 0 ∨ nI (A 0 0) ≤ x) {post : Int32 → MX → Prop} (h : post 0 z) : pX8_isBlock z x post := by
  have h1 := hA.1
  have h2 := hA.2.1
  unfold pX8_isBlock
  rw [hL.1, nI_m1 (by omega)]
  refine s_iN z (lo := 0) (by decide) rfl (hx.imp id (fun h => ?_)) ⟨Or.inl rfl, h⟩
  exact fa_of_nle (fun q => nI_ge (a := A 0 0 - 1) (b := A 0 0) (by omega) (by omega) (Int32.le_trans h q))
theorem sM_trY {z : MX} {A : AL} (hL : LM z A) (hA : AOK A) {t : Nat} (ht : t < A 0 1) {post : Int32 → MX → Prop} (h : post 1 z) : pX8_isTrain z (nI t) post := by
  have := hA.2.2.1
  unfold pX8_isTrain
  rw [hL.2.1, nI_m1 (by omega)]
  exact s_iY z (lo := 0) (by decide) rfl (nI_pos' (by omega)) (nI_le (by omega) (by omega)) ⟨Or.inr rfl, h⟩
theorem sM_trN {z : MX} {A : AL} (hL : LM z A) (hA : AOK A) {x : Int32} (hx : x < 0 ∨ nI (A 0 1) ≤ x) {post : Int32 → MX → Prop} (h : post 0 z) : pX8_isTrain z x post := by
  have h2 := hA.2.2.1
  unfold pX8_isTrain
  rw [hL.2.1]
  by_cases e : A 0 1 = 0
  · rw [e]
    refine s_iN z (lo := 0) (hi := nI 0 - 1) (by decide) rfl ?_ ⟨Or.inl rfl, h⟩
    have : nI 0 - 1 = (-1 : Int32) := by decide
    rw [this]
    grind
  · rw [nI_m1 (by omega)]
    refine s_iN z (lo := 0) (by decide) rfl (hx.imp id (fun h => ?_)) ⟨Or.inl rfl, h⟩
    exact fa_of_nle (fun q => nI_ge (a := A 0 1 - 1) (b := A 0 1) (by omega) (by omega) (Int32.le_trans h q))
/-! parts of the relation, by the cells that they speak of -/
theorem ImgR.e {A : AL} {zx zx1 zm zm1 : MX} (h : ImgR A zx zm) (h1 : zx1.1 40 = zx.1 40) (h2 : ∀ c, 8 ≤ c → c ≤ 15 → zx1.1 c = zx.1 c) (h3 : zm1.1 16 = zm.1 16) (h4 : ∀ k, 25 ≤ k → k < 75 → zm1.1 1 k = zm.1 1 k) : ImgR A zx1 zm1 := by
  intro k hk
  obtain ⟨u1, u2⟩ := h k hk
  rw [h1, h3]
  refine ⟨u1, u2.imp id (fun ⟨u3, A2, a1, a2, a3, a4⟩ => ⟨u3, A2, a1, a2, ?_, ?_⟩)⟩
  · unfold LX
    rw [h2 (4 * (2 + k)) (by omega) (by omega), h2 (4 * (2 + k) + 1) (by omega) (by omega), h2 (4 * (2 + k) + 2) (by omega) (by omega), h2 (4 * (2 + k) + 3) (by omega) (by omega)]
    exact a3
  · have hT := a1.2.2.1
    exact ⟨by rw [h4 _ (by omega) (by omega)]; exact a4.1, fun b hb => by rw [h4 _ (by omega) (by omega)]; exact a4.2.1 b hb, fun t w ht hw => by rw [h4 _ (by omega) (by omega)]; exact a4.2.2 t w ht hw⟩
theorem TapeR.e {zx zx1 zm zm1 : MX} (h : TapeR zx zm) (h1 : zx1.1 24 1 = zx.1 24 1) (h2 : zx1.1 25 = zx.1 25) (h3 : zm1.1 0 15 = zm.1 0 15) (h4 : zm1.1 6 = zm.1 6) : TapeR zx1 zm1 := by
  unfold TapeR
  rw [h1, h2, h3, h4]
  exact h
theorem SeenR.e {zx zx1 zm zm1 : MX} (h : SeenR zx zm) (h1 : zx1.1 33 6 = zx.1 33 6) (h2 : ∀ c, 34 ≤ c → c ≤ 36 → zx1.1 c = zx.1 c) (h3 : zm1.1 0 37 = zm.1 0 37) (h4 : zm1.1 14 = zm.1 14) : SeenR zx1 zm1 := by
  unfold SeenR
  rw [h1, h2 34 (by omega) (by omega), h2 35 (by omega) (by omega), h2 36 (by omega) (by omega), h3, h4]
  exact h
theorem ShtR.e {zx zx1 zm zm1 : MX} (h : ShtR zx zm) (h1 : ∀ c, 16 ≤ c → c ≤ 23 → zx1.1 c = zx.1 c) (h2 : ∀ c, 17 ≤ c → c ≤ 19 → zm1.1 c = zm.1 c) : ShtR zx1 zm1 := by
  intro j hj
  have h := h j hj
  rw [h1 (16 + 2 * j) (by omega) (by omega), h1 (17 + 2 * j) (by omega) (by omega), h2 17 (by omega) (by omega), h2 18 (by omega) (by omega), h2 19 (by omega) (by omega)]
  exact h
theorem CstR.e {zm zm1 : MX} (h : CstR zm) (h1 : zm1.1 7 = zm.1 7) (h2 : zm1.1 8 = zm.1 8) : CstR zm1 := by
  unfold CstR
  rw [h1, h2]
  exact h
/-! feed, end, fault -/
theorem q_feed {zx zm : MX} (h : Rel zx zm) (x : Int32) : pX7_feed zx x (fun r zx1 => pX8_feed zm x (fun r2 zm1 => r = r2 ∧ Rel zx1 zm1)) := by
  have h0 := h
  obtain ⟨A, a, b, c, d, ⟨n, n1, n2, n3, n4⟩, f, g, i, j, k⟩ := h
  unfold pX7_feed pX8_feed
  rcases ix x (n := 128) (by decide) with hx | ⟨y, hy, rfl⟩
  · have bad : pX8_in zm (Int32.toInt64 x) (0 : Int64) (127 : Int64) (fun (r6 : Int32) (z6 : MX) => ((¬ r6 = 0 → ((¬ (z6.1 0 15) = (160 : Int32) → vp_in (z6.1 0 15) 160 ∧ ∀ z36 : MX, z36 = mw z6 6 (Int32.toNatClampNeg (z6.1 0 15)) x → ∀ z44 : MX, z44 = mw z36 0 15 ((z36.1 0 15) + (1 : Int32)) → (-1 : Int32) = (z44.1 0 15) ∧ Rel zx z44) ∧ ((z6.1 0 15) = (160 : Int32) → (-1 : Int32) = (-3 : Int32) ∧ Rel zx z6))) ∧ (r6 = 0 → (-1 : Int32) = (-1 : Int32) ∧ Rel zx z6))) := by
      refine s_iN zm (lo := 0) (hi := 127) (by decide) (by decide) ?_ ⟨fun q => absurd rfl q, fun _ => ⟨rfl, h0⟩⟩
      rcases hx with e | e
      · exact Or.inl e
      · exact Or.inr (by rw [show nI 128 = (128 : Int32) from rfl] at e; grind)
    refine ⟨fun _ => bad, fun e => ⟨fun e2 => ?_, fun _ => bad⟩⟩
    rw [show nI 128 = (128 : Int32) from rfl] at hx
    grind
  · refine ⟨fun e => absurd e (nI_pos (by omega)), fun _ => ⟨fun _ => ?_, fun e => absurd (nI_le (a := y) (b := 127) (by omega) (by decide)) e⟩⟩
    unfold pX5_append
    rw [n2, nI_clamp (by omega)]
    have inn : ∀ post : Int32 → MX → Prop, post 1 zm → pX8_in zm (nI y).toInt64 0 127 post := fun post hp => s_iY zm (lo := 0) (hi := 127) (by decide) (by decide) (nI_pos' (by omega)) (nI_le (a := y) (b := 127) (by omega) (by decide)) hp
    refine ⟨fun e => ?_, fun e => ?_⟩
    · have e' := (nI_ltI (a := n) (b := 160) (by omega) (by decide)).mp e
      refine ⟨vp_in_nI (by omega) (by decide), fun z1 e1 z2 e2 => ⟨Or.inr rfl, fun q => absurd q (by decide), fun _ => inn _ ⟨fun _ => ⟨fun _ => ?_, fun q => ?_⟩, fun q => absurd q (by decide)⟩⟩⟩
      · rw [n3, nI_clamp (by omega)]
        refine ⟨vp_in_nI (by omega) (by decide), fun y1 g1 y2 g2 => ?_⟩
        have v1 : z2.1 24 1 = nI (n + 1) := by
          rw [e2, mw_s, e1, mw_n _ _ _ (by decide), n2, nI_1]
        have v2 : y2.1 0 15 = nI (n + 1) := by
          rw [g2, mw_s, g1, mw_n _ _ _ (by decide), n3, nI_1]
        refine ⟨by rw [v1, v2], A, a, ?_, ?_, ?_, ?_, ?_, ?_, ?_, ?_, ?_⟩
        · have f1 : fr 24 25 zx z2 := by rw [e2, e1]; exact ((fr.rf 24 25 zx).mw _ _ (by omega) (by omega)).mw _ _ (by omega) (by omega)
          exact b.fr f1 (by omega)
        · rw [g2, g1]
          unfold LM at c ⊢
          simp only [mw_g]
          simpa using c
        · exact d.e (by rw [e2, e1, mw_n _ _ _ (by decide), mw_n _ _ _ (by decide)]) (fun c h1 h2 => by rw [e2, e1, mw_n _ _ _ (by omega), mw_n _ _ _ (by omega)]) (by rw [g2, g1, mw_n _ _ _ (by decide), mw_n _ _ _ (by decide)]) (fun k _ _ => by rw [g2, g1, mw_n _ _ _ (by decide), mw_n _ _ _ (by decide)])
        · refine ⟨n + 1, by omega, v1, v2, fun k hk => ?_⟩
          rw [e2, e1, g2, g1]
          simp only [mw_g]
          by_cases ek : k = n
          · rw [ek]
            simp
            exact ⟨y, hy, rfl⟩
          · simp [ek]
            exact n4 k (by omega)
        · rw [e2, e1, g2, g1]
          unfold SeenR at f ⊢
          simp only [mw_g]
          simpa using f
        · intro jj hj
          have := g jj hj
          rw [e2, e1, g2, g1]
          rw [mw_n _ _ _ (by omega), mw_n _ _ _ (by omega), mw_n _ _ _ (by omega), mw_n _ _ _ (by omega), mw_n _ _ _ (by omega), mw_n _ _ _ (by omega), mw_n _ _ _ (by omega), mw_n _ _ _ (by omega), mw_n _ _ _ (by omega), mw_n _ _ _ (by omega)]
          exact this
        · rw [g2, g1]
          unfold CstR at i ⊢
          rw [mw_n _ _ _ (by decide), mw_n _ _ _ (by decide), mw_n _ _ _ (by decide), mw_n _ _ _ (by decide)]
          exact i
        · rw [e2, e1, g2, g1]
          simp only [mw_g]
          simpa using j
        · rw [e2, e1, g2, g1]
          simp only [mw_g]
          simpa using k
      · rw [n3] at q
        have := (nI_eq (a := n) (b := 160) (by omega) (by decide)).mp q
        omega
    · refine ⟨Or.inl rfl, fun _ => inn _ ⟨fun _ => ⟨fun q => ?_, fun _ => ⟨rfl, h0⟩⟩, fun q => absurd q (by decide)⟩, fun q => absurd rfl q⟩
      exfalso
      apply q
      rw [n3]
      have : ¬ n < 160 := fun w => e (nI_lt (a := n) (b := 160) w (by decide))
      have : n = 160 := by omega
      rw [this]
      rfl
theorem q_end {zx zm : MX} (h : Rel zx zm) (x : Int32) : pX7_end zx x (fun r zx1 => pX8_end zm x (fun r2 zm1 => r = r2 ∧ Rel zx1 zm1)) := by
  have h0 := h
  obtain ⟨A, a, b, c, d, ⟨n, n1, n2, n3, n4⟩, f, g, i, j, k⟩ := h
  unfold pX7_end pX8_end
  rw [n2, n3]
  intro v hv
  rw [hv]
  rcases ix x (n := n + 1) (by omega) with hx | ⟨y, hy, rfl⟩
  · have hx2 : x < 0 ∨ nI n < x := by
      rcases hx with e | e
      · exact Or.inl e
      · exact Or.inr (fa_of_nle (fun q => nI_ge (a := n) (b := n + 1) (by omega) (by omega) (Int32.le_trans e q)))
    have bad : ∀ post : Int32 → MX → Prop, post 0 zm → pX8_in zm x.toInt64 0 (nI n).toInt64 post := fun post hp => s_iN zm (lo := 0) (by decide) rfl hx2 hp
    refine ⟨fun _ => bad _ ⟨fun q => absurd rfl q, fun _ => ⟨rfl, h0⟩⟩, fun e => ⟨fun e2 => ?_, fun _ => bad _ ⟨fun q => absurd rfl q, fun _ => ⟨rfl, h0⟩⟩⟩⟩
    grind
  · refine ⟨fun e => absurd e (nI_pos (by omega)), fun _ => ⟨fun _ z1 e1 => ?_, fun e => absurd (nI_le (a := y) (b := n) (by omega) (by omega)) e⟩⟩
    refine s_iY zm (lo := 0) (by decide) rfl (nI_pos' (by omega)) (nI_le (by omega) (by omega)) ⟨fun _ w hw y1 g1 => ?_, fun q => absurd q (by decide)⟩
    rw [n3] at hw
    refine ⟨hw.symm, A, a, ?_, ?_, ?_, ?_, ?_, ?_, ?_, ?_, ?_⟩
    · have f1 : fr 24 24 zx z1 := by rw [e1]; exact (fr.rf 24 24 zx).mw _ _ (by omega) (by omega)
      exact b.fr f1 (by omega)
    · rw [g1]
      unfold LM at c ⊢
      simp only [mw_g]
      simpa using c
    · exact d.e (by rw [e1, mw_n _ _ _ (by decide)]) (fun c h1 h2 => by rw [e1, mw_n _ _ _ (by omega)]) (by rw [g1, mw_n _ _ _ (by decide)]) (fun k _ _ => by rw [g1, mw_n _ _ _ (by decide)])
    · refine ⟨y, by omega, by rw [e1, mw_s], by rw [g1, mw_s], fun k hk => ?_⟩
      rw [e1, g1, mw_n _ _ _ (by decide), mw_n _ _ _ (by decide)]
      exact n4 k (by omega)
    · exact f.e (by rw [e1, mw_n _ _ _ (by decide)]) (fun c h1 h2 => by rw [e1, mw_n _ _ _ (by omega)]) (by rw [g1, mw_k _ _ (by decide)]) (by rw [g1, mw_n _ _ _ (by decide)])
    · exact g.e (fun c h1 h2 => by rw [e1, mw_n _ _ _ (by omega)]) (fun c h1 h2 => by rw [g1, mw_n _ _ _ (by omega)])
    · exact i.e (by rw [g1, mw_n _ _ _ (by decide)]) (by rw [g1, mw_n _ _ _ (by decide)])
    · rw [e1, g1, mw_n _ _ _ (by decide), mw_k _ _ (by decide)]; exact j
    · rw [e1, g1, mw_n _ _ _ (by decide), mw_k _ _ (by decide)]; exact k
theorem q_fault {zx zm : MX} (h : Rel zx zm) : pX7_fault zx (fun r zx1 => pX8_fault zm (fun r2 zm1 => r = r2 ∧ Rel zx1 zm1)) := by
  have h0 := h
  obtain ⟨A, a, b, c, d, e, f, g, i, j, k⟩ := h
  exact ⟨j, h0⟩
theorem q_torn {zx zm : MX} (h : Rel zx zm) : pX7_torn zx (fun r zx1 => pX8_torn zm (fun r2 zm1 => r = r2 ∧ Rel zx1 zm1)) := by
  have h0 := h
  obtain ⟨A, a, b, c, d, e, f, g, i, j, k⟩ := h
  exact ⟨k, h0⟩
