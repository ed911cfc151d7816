/-! words -/
def wLn (k : Nat) : Nat := xLen.getD k 0
def wLt (k i : Nat) : Int32 := (xByt.getD k []).getD i 0
def hereP (T : Nat → Nat) (s e k : Nat) : Prop := e - s = wLn k ∧ ∀ i, i < wLn k → nI (T (s + i)) = wLt k i
theorem words_apart : ∀ k, k < 13 → ∀ l, l < 13 → k ≠ l → wLn k = wLn l → ∃ i, i < wLn k ∧ wLt k i ≠ wLt l i := by decide +kernel
theorem wLn_b : ∀ k, k < 13 → 2 ≤ wLn k ∧ wLn k ≤ 7 := by decide +kernel
theorem here_one {T : Nat → Nat} {s e k l : Nat} (hk : k < 13) (hl : l < 13) (h1 : hereP T s e k) (h2 : hereP T s e l) : k = l := by
  refine Classical.byContradiction (fun w => ?_)
  obtain ⟨i, i1, i2⟩ := words_apart k hk l hl w (h1.1.symm.trans h2.1)
  exact i2 ((h1.2 i i1).symm.trans (h2.2 i (by rw [← h2.1, h1.1]; exact i1)))
noncomputable def fnd (P : Nat → Prop) : Nat → Nat → Nat
  | 0, k => k
  | m + 1, k => @ite _ (P k) (Classical.propDecidable _) k (fnd P m (k + 1))
theorem fnd_y {P : Nat → Prop} {m k : Nat} (h : P k) : fnd P (m + 1) k = k := by
  show @ite _ _ (Classical.propDecidable _) _ _ = _
  rw [if_pos h]
theorem fnd_n {P : Nat → Prop} {m k : Nat} (h : ¬ P k) : fnd P (m + 1) k = fnd P m (k + 1) := by
  show @ite _ _ (Classical.propDecidable _) _ _ = _
  rw [if_neg h]
theorem fnd_b (P : Nat → Prop) : ∀ m k, fnd P m k ≤ k + m ∧ (fnd P m k < k + m → P (fnd P m k)) ∧ (fnd P m k = k + m → ∀ j, k ≤ j → j < k + m → ¬ P j) := by
  intro m
  induction m with
  | zero => intro k; exact ⟨Nat.le_refl _, fun w => absurd w (Nat.lt_irrefl _), fun _ j h1 h2 => absurd h2 (by omega)⟩
  | succ m ih =>
    intro k
    by_cases c : P k
    · rw [fnd_y c]
      exact ⟨by omega, fun _ => c, fun w => absurd w (by omega)⟩
    · rw [fnd_n c]
      obtain ⟨i1, i2, i3⟩ := ih (k + 1)
      refine ⟨by omega, fun w => i2 (by omega), fun w j h1 h2 => ?_⟩
      by_cases e : j = k
      · rw [e]; exact c
      · exact i3 (by omega) j (by omega) (by omega)
noncomputable def wd (n : Nat) (T : Nat → Nat) (p : Nat) : Nat := if tK n T p = 1 then fnd (hereP T (tS n T p) (tE n T p)) 13 0 else 13
theorem wd_le (n : Nat) (T : Nat → Nat) (p : Nat) : wd n T p ≤ 13 := by
  unfold wd
  by_cases c : tK n T p = 1
  · rw [if_pos c]
    have := (fnd_b (hereP T (tS n T p) (tE n T p)) 13 0).1
    omega
  · rw [if_neg c]; exact Nat.le_refl _
def wcX (r : Nat) : Int32 := if r < 13 then nI r else -1
def wRho (r : Nat) : Nat := ([8, 0, 1, 2, 3, 9, 10, 4, 5, 6, 7, 11, 12] : List Nat).getD r 0
def wPi (j : Nat) : Nat := ([1, 2, 3, 4, 7, 8, 9, 10, 0, 5, 6, 11, 12] : List Nat).getD j 0
def wcM (r : Nat) : Int32 := if r < 13 then nI (wRho r) else -4
theorem wPR : (∀ j, j < 13 → wPi j < 13 ∧ wRho (wPi j) = j) ∧ (∀ k, k < 13 → wRho k < 13 ∧ wPi (wRho k) = k) := by decide
theorem sX_length {w : Nat} {z : MX} (post : Int32 → MX → Prop) (h : post (nI (wLn w)) z) : pJ0_length_8abf5 w z post := h
theorem ih_s (w : Nat) (post : Int32 → MX → Prop) (n : Nat) : pX5_isHere_L20 w post (n + 1) = pX5_isHere_l20 w (pX5_isHere_L20 w post n) post := rfl
theorem wh_s (post : Int32 → MX → Prop) (n : Nat) : pX5_wordHere_L10 post (n + 1) = pX5_wordHere_l10 (pX5_wordHere_L10 post n) post := rfl
set_option maxHeartbeats 2000000 in
theorem sX_isHere {z : MX} {n : Nat} {T : Nat → Nat} (hT : TpX z n T) {s e k : Nat} (hk : k < 13) (hs : s ≤ e) (he : e ≤ n) (h6 : z.1 24 6 = nI s) (h7 : z.1 24 7 = nI e) (post : Int32 → MX → Prop) (h1 : hereP T s e k → post 1 z) (h0 : ¬ hereP T s e k → post 0 z) : pX5_isHere k z post := by
  have hn := hT.1
  have wb := wLn_b k hk
  unfold pX5_isHere
  refine sX_length _ ?_
  rw [h6, h7, pk_sub (by omega), nI_eq (by omega) (by omega)]
  refine ⟨fun c => ?_, fun c => ⟨Or.inl rfl, h0 (fun w => c w.1.symm)⟩⟩
  have key : ∀ q i, i + q = wLn k → (∀ j, j < i → nI (T (s + j)) = wLt k j) → pX5_isHere_L20 k post (q + 1) z (nI i) := by
    intro q
    induction q with
    | zero =>
      intro i hi hp
      rw [ih_s]
      unfold pX5_isHere_l20
      refine sX_length _ ?_
      have ei : i = wLn k := by omega
      rw [ei] at hp ⊢
      exact ⟨fun _ => ⟨Or.inr rfl, h1 ⟨c.symm, hp⟩⟩, fun w => absurd (nI_le (Nat.le_refl _) (by omega)) w⟩
    | succ q ih =>
      intro i hi hp
      rw [ih_s]
      unfold pX5_isHere_l20
      refine sX_length _ ?_
      rw [h6, nI_add, nI_clamp (by omega), hT.2.2.2 _ (by omega)]
      refine ⟨fun w => absurd w (nI_ge (by omega) (by omega)), fun _ => ⟨vp_in_nI (by omega) (by omega), ?_⟩⟩
      unfold pJ0_charAt_5068e
      rw [nI_clamp (by omega)]
      refine ⟨vp_in_nI (by show i < wLn k; omega) (by show wLn k < 2 ^ 31; omega), fun d x hx => ?_, fun d => ⟨Or.inl rfl, h0 (fun w => d (w.2 i (by omega)))⟩⟩
      rw [hx, nI_1]
      refine ih (i + 1) (by omega) (fun j hj => ?_)
      by_cases ej : j = i
      · rw [ej]; exact d
      · exact hp j (by omega)
  exact ⟨wLn k + 1, key (wLn k) 0 (by omega) (fun j hj => absurd hj (by omega))⟩
theorem sX_spell {z : MX} {k : Nat} (hk : k < 13) (post : Nat → MX → Prop) (h : post k z) : pX5_spelling z (nI k) post := by
  unfold pX5_spelling
  have t := nI_toInt (n := k) (by omega)
  have cs : ∀ v : Nat, v < 12 → (nI k = nI v → post v z) := fun v hv e => by
    have := (nI_eq (by omega) (by omega)).mp e
    rw [← this]; exact h
  refine ⟨fun w => ?_, cs 0 (by decide), cs 1 (by decide), cs 2 (by decide), cs 3 (by decide), cs 4 (by decide), cs 5 (by decide), cs 6 (by decide), cs 7 (by decide), cs 8 (by decide), cs 9 (by decide), cs 10 (by decide), cs 11 (by decide)⟩
  rw [t] at w
  have : k = 12 := by omega
  rw [← this]; exact h
theorem sX_word {z : MX} {n : Nat} {T : Nat → Nat} (hT : TpX z n T) {p : Nat} (hp : p ≤ n) (h5 : z.1 24 5 = nI (tK n T p)) (h6 : z.1 24 6 = nI (tS n T p)) (h7 : z.1 24 7 = nI (tE n T p)) (hk4 : tK n T p < 4) (post : Int32 → MX → Prop) (h : post (wcX (wd n T p)) z) : pX5_wordHere z post := by
  have b1 := tS_b (T := T) hp
  have b2 := tE_b (T := T) hp
  unfold pX5_wordHere
  rw [h5, show (1 : Int32) = nI 1 from rfl, nI_eq (by omega) (by decide)]
  unfold wd at h
  refine ⟨fun c => ?_, fun c => ?_⟩
  · rw [if_neg c] at h; exact h
  · rw [if_pos c] at h
    have key : ∀ q k, k + q = 13 → post (wcX (fnd (hereP T (tS n T p) (tE n T p)) q k)) z → pX5_wordHere_L10 post (q + 1) z (nI k) := by
      intro q
      induction q with
      | zero =>
        intro k hk hp
        rw [wh_s]
        unfold pX5_wordHere_l10
        have ek : k = 13 := by omega
        rw [ek] at hp ⊢
        exact ⟨fun _ => hp, fun w => absurd (by decide) w⟩
      | succ q ih =>
        intro k hk hp
        rw [wh_s]
        unfold pX5_wordHere_l10
        refine ⟨fun w => absurd w (nI_ge (a := k) (b := 13) (by omega) (by decide)), fun _ => sX_spell (by omega) _ (sX_isHere hT (by omega) b2.1 b2.2 h6 h7 _ (fun y => ⟨fun w => absurd w (by decide), fun _ => ?_⟩) (fun y => ⟨fun _ x hx => ?_, fun w => absurd rfl w⟩))⟩
        · rw [fnd_y y] at hp
          unfold wcX at hp
          rw [if_pos (by omega)] at hp
          exact hp
        · rw [fnd_n y] at hp
          rw [hx, nI_1]
          exact ih (k + 1) (by omega) hp
    exact ⟨14, key 13 0 (by omega) h⟩
/-! the reference -/
theorem cuts_ok : ∀ j, j < 13 → mCuts j = nI (mCuts j).toNatClampNeg ∧ (mCuts j).toNatClampNeg + wLn (wPi j) ≤ 66 ∧ mCuts (j + 1) - mCuts j = nI (wLn (wPi j)) ∧ ∀ i, i < wLn (wPi j) → mLets ((mCuts j).toNatClampNeg + i) = wLt (wPi j) i := by decide +kernel
theorem nh_s2 (post : Int32 → MX → Prop) (n : Nat) : pX8_nameHere_L2 post (n + 1) = pX8_nameHere_l2 (pX8_nameHere_L2 post n) post := rfl
theorem nh_s51 (r : MX → Int32 → Prop) (post : Int32 → MX → Prop) (n : Nat) : pX8_nameHere_L51 r post (n + 1) = pX8_nameHere_l51 r (pX8_nameHere_L51 r post n) post := rfl
set_option maxHeartbeats 4000000 in
theorem sM_name {z : MX} {n : Nat} {T : Nat → Nat} (hT : TpM z n T) (hC : CstR z) {p : Nat} (hp : p ≤ n) (h19 : z.1 0 19 = nI (tE n T p)) (h20 : z.1 0 20 = nI (tS n T p)) (h21 : z.1 0 21 = nI (tK n T p)) (hk4 : tK n T p < 4) (post : Int32 → MX → Prop) (h : post (wcM (wd n T p)) z) : pX8_nameHere z post := by
  have hn := hT.1
  have b1 := tS_b (T := T) hp
  have b2 := tE_b (T := T) hp
  unfold pX8_nameHere
  by_cases c : tK n T p = 1
  case neg =>
    refine ⟨1, ?_⟩
    rw [nh_s2]
    unfold pX8_nameHere_l2
    rw [h21, show (1 : Int32) = nI 1 from rfl, nI_eq (by omega) (by decide)]
    unfold wd at h
    rw [if_neg c] at h
    exact ⟨fun w => absurd w (by decide), fun _ => ⟨fun _ => h, fun w => absurd w c⟩⟩
  have fb := fnd_b (hereP T (tS n T p) (tE n T p)) 13 0
  have ew : wd n T p = fnd (hereP T (tS n T p) (tE n T p)) 13 0 := by unfold wd; rw [if_pos c]
  rw [ew] at h
  have key : ∀ q j, j + q = 13 → (∀ i, i < j → ¬ hereP T (tS n T p) (tE n T p) (wPi i)) → pX8_nameHere_L2 post (q + 1) z (nI j) := by
    intro q
    induction q with
    | zero =>
      intro j hj hno
      rw [nh_s2]
      unfold pX8_nameHere_l2
      have ej : j = 13 := by omega
      rw [ej]
      refine ⟨fun _ => ?_, fun w => absurd (by decide) w⟩
      have e13 : fnd (hereP T (tS n T p) (tE n T p)) 13 0 = 13 := by
        refine Classical.byContradiction (fun w => ?_)
        have lt : fnd (hereP T (tS n T p) (tE n T p)) 13 0 < 13 := by have := fb.1; omega
        have hp := fb.2.1 (by omega)
        have r := wPR.2 _ lt
        have := hno (wRho (fnd (hereP T (tS n T p) (tE n T p)) 13 0)) (by omega)
        rw [r.2] at this
        exact this hp
      rw [e13] at h
      exact h
    | succ q ih =>
      intro j hj hno
      rw [nh_s2]
      unfold pX8_nameHere_l2
      obtain ⟨c1, c2, c3, c4⟩ := cuts_ok j (by omega)
      have pj := wPR.1 j (by omega)
      have wb := wLn_b (wPi j) pj.1
      rw [h21, show (1 : Int32) = nI 1 from rfl, nI_eq (by omega) (by decide), nI_add, nI_clamp (by omega), nI_clamp (by omega), h19, h20, pk_sub (by omega), hC.1 _ (by omega), hC.1 _ (by omega), c3, nI_eq (by omega) (by omega)]
      -- not this one
      have no : ¬ hereP T (tS n T p) (tE n T p) (wPi j) → pX8_nameHere_b106 (pX8_nameHere_L2 post (q + 1)) post z (nI j) 0 := by
        intro w
        unfold pX8_nameHere_b106
        refine ⟨fun _ x hx => ?_, fun w => absurd rfl w⟩
        rw [hx, nI_1]
        refine ih (j + 1) (by omega) (fun i hi => ?_)
        by_cases ei : i = j
        · rw [ei]; exact w
        · exact hno i (by omega)
      have yes : hereP T (tS n T p) (tE n T p) (wPi j) → pX8_nameHere_b106 (pX8_nameHere_L2 post (q + 1)) post z (nI j) 1 := by
        intro w
        unfold pX8_nameHere_b106
        refine ⟨fun w => absurd w (by decide), fun _ => ?_⟩
        have lt : fnd (hereP T (tS n T p) (tE n T p)) 13 0 < 13 := by
          refine Classical.byContradiction (fun w2 => ?_)
          have := fb.1
          exact fb.2.2 (by omega) (wPi j) (by omega) (by have := pj.1; omega) w
        have e1 := here_one lt pj.1 (fb.2.1 (by omega)) w
        rw [e1] at h
        unfold wcM at h
        rw [if_pos pj.1, pj.2] at h
        exact h
      refine ⟨fun w => absurd w (nI_ge (a := j) (b := 13) (by omega) (by decide)), fun _ => ⟨fun w => absurd c w, fun _ => ⟨vp_in_nI (by omega) (by decide), vp_in_nI (by omega) (by decide), fun d => ⟨1, ?_⟩, fun d => ⟨wLn (wPi j) + 1, ?_⟩⟩⟩⟩
      · rw [nh_s51]
        unfold pX8_nameHere_l51
        exact ⟨fun _ => no (fun w => d w.1), fun w => absurd rfl w⟩
      · have inn : ∀ r i, i + r = wLn (wPi j) → (∀ u, u < i → nI (T (tS n T p + u)) = wLt (wPi j) u) → pX8_nameHere_L51 (pX8_nameHere_L2 post (q + 1)) post (r + 1) z (nI j) (nI 1) (nI i) := by
          intro r
          induction r with
          | zero =>
            intro i hi hm
            rw [nh_s51]
            unfold pX8_nameHere_l51
            have ei : i = wLn (wPi j) := by omega
            rw [h19, h20, pk_sub (by omega), d, ei]
            rw [ei] at hm
            exact ⟨fun w => absurd w (by decide), fun _ => ⟨fun _ => yes ⟨d, hm⟩, fun w => absurd (nI_le (Nat.le_refl _) (by omega)) w⟩⟩
          | succ r ihr =>
            intro i hi hm
            rw [nh_s51]
            unfold pX8_nameHere_l51
            rw [h19, h20, pk_sub (by omega), d, nI_add]
            refine ⟨fun w => absurd w (by decide), fun _ => ⟨fun w => absurd w (nI_ge (by omega) (by omega)), fun _ => sM_byte hT (by omega) _ ?_⟩⟩
            have eb : bA n T (tS n T p + i) = nI (T (tS n T p + i)) := if_pos (by omega)
            rw [eb, nI_clamp (by omega), hC.1 _ (by omega), c1, nI_add, nI_clamp (by omega), hC.2 _ (by omega), c4 i (by omega)]
            unfold pX8_nameHere_b99
            refine ⟨vp_in_nI (by omega) (by decide), vp_in_nI (by omega) (by decide), fun u x hx => ?_, fun u x hx => ?_⟩
            · -- a letter is another
              have : ∃ k, r + 1 = k + 1 := ⟨r, rfl⟩
              rw [nh_s51]
              unfold pX8_nameHere_l51
              exact ⟨fun _ => no (fun w => u (w.2 i (by omega))), fun w => absurd rfl w⟩
            · rw [hx, nI_1]
              refine ihr (i + 1) (by omega) (fun v hv => ?_)
              by_cases ev : v = i
              · rw [ev]; exact u
              · exact hm v (by omega)
        exact inn (wLn (wPi j)) 0 (by omega) (fun u hu => absurd hu (by omega))
  exact ⟨14, key 13 0 (by omega) (fun i hi => absurd hi (by omega))⟩
