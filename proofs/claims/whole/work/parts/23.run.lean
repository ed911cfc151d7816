/-! THE RUN, as a function of a line. A line A: A 0 0 blocks, A 0 1 trains, A 0 2 locks, A 0 3 guards; A 1 b omens; A 2 j ends of locks; A 3 (4 t + w) facts of trains. A run's state r: r 0 t places, r 1 t waits left (-1: unseen), r 2 t home minutes, r 3: 0 bump minute, 1 its block, 2 its trains, 3 waited, 4 kept out, 5 entered, 6 homes -/
abbrev AL : Type := Nat → Nat → Nat
abbrev RS : Type := Nat → Nat → Int32
def AOK (A : AL) : Prop := 2 ≤ A 0 0 ∧ A 0 0 ≤ 8 ∧ A 0 1 ≤ 4 ∧ A 0 2 ≤ 4 ∧ A 0 3 < 256 ∧ (∀ b, b < 8 → A 1 b < 5) ∧ (∀ b, A 0 0 ≤ b → b < 8 → A 1 b = 0) ∧ (∀ j, j < 2 * A 0 2 → A 2 j < A 0 0) ∧ (∀ t, t < A 0 1 → A 3 (4 * t) < 4 ∧ A 3 (4 * t + 1) < 2 ∧ A 3 (4 * t + 2) < 10 ∧ A 3 (4 * t + 3) < 10)
/-- what a run needs of a line -/
def ROK (A : AL) : Prop := 2 ≤ A 0 0 ∧ A 0 0 ≤ 8 ∧ A 0 1 ≤ 4 ∧ (∀ b, b < 8 → A 1 b < 5) ∧ (∀ t, t < A 0 1 → A 3 (4 * t) < 4 ∧ A 3 (4 * t + 1) < 2 ∧ A 3 (4 * t + 2) < 10 ∧ A 3 (4 * t + 3) < 10)
theorem AOK.R {A : AL} (h : AOK A) : ROK A := ⟨h.1, h.2.1, h.2.2.1, h.2.2.2.2.2.1, h.2.2.2.2.2.2.2.2⟩
def LX (i : Nat) (z : MX) (A : AL) : Prop := z.1 (4 * i) 0 = nI (A 0 0) ∧ z.1 (4 * i) 1 = nI (A 0 3) ∧ z.1 (4 * i) 2 = nI (A 0 2) ∧ z.1 (4 * i) 3 = nI (A 0 1) ∧ (∀ b, b < 8 → z.1 (4 * i + 1) b = nI (A 1 b)) ∧ (∀ j, j < 2 * A 0 2 → z.1 (4 * i + 2) j = nI (A 2 j)) ∧ (∀ t w, t < A 0 1 → w < 4 → z.1 (4 * i + 3) (4 * t + w) = nI (A 3 (4 * t + w)))
theorem LX.fr {i : Nat} {z z1 : MX} {A : AL} {lo hi : Nat} (h : LX i z A) (hf : fr lo hi z z1) (hd : 4 * i + 3 < lo ∨ hi < 4 * i) : LX i z1 A := by
  obtain ⟨h1, h2, h3, h4, h5, h6, h7⟩ := h
  have e0 := hf.1 (4 * i) (by omega)
  have e1 := hf.1 (4 * i + 1) (by omega)
  have e2 := hf.1 (4 * i + 2) (by omega)
  have e3 := hf.1 (4 * i + 3) (by omega)
  exact ⟨by rw [e0]; exact h1, by rw [e0]; exact h2, by rw [e0]; exact h3, by rw [e0]; exact h4, by rw [e1]; exact h5, by rw [e2]; exact h6, by rw [e3]; exact h7⟩
def ru (r : RS) (c k : Nat) (v : Int32) : RS := fun a b => if a = c ∧ b = k then v else r a b
def aLast (A : AL) (t : Nat) : Int32 := if A 3 (4 * t + 1) = 0 then nI (A 0 0 - 1) else 0
def aNext (A : AL) (t : Nat) (p : Int32) : Int32 := if A 3 (4 * t + 1) = 0 then (if p = -4 then 0 else p + 1) else (if p = -4 then nI (A 0 0 - 1) else p - 1)
def aWait (A : AL) (t : Nat) (b : Int32) : Int32 := xWait (A 3 (4 * t) * 5 + A 1 b.toNatClampNeg)
def occF (f : Nat → Int32) (b : Int32) : Nat → Nat → Int32
  | _, 0 => -4
  | j, k + 1 => if f j = b then nI j else occF f b (j + 1) k
def aEnter (A : AL) (r : RS) (t m : Nat) (b : Int32) : RS :=
  if occF (r 0) b 0 (A 0 1) = -4 then ru (ru (ru r 0 t b) 1 t (-1)) 3 5 (r 3 5 ||| (1 <<< (b &&& 31)))
  else if ((nI (A 0 3) >>> (b &&& 31)) &&& 1) = 0 then ru (ru (ru r 3 0 (nI m)) 3 1 b) 3 2 (10 * nI t + occF (r 0) b 0 (A 0 1))
  else ru r 3 4 (r 3 4 + 1)
def aW (A : AL) (r : RS) (t : Nat) : Int32 := if r 1 t = -1 then aWait A t (aNext A t (r 0 t)) else r 1 t
def aStep (A : AL) (r : RS) (t m : Nat) : RS :=
  if r 0 t = aLast A t then ru (ru (ru r 0 t (-4)) 2 t (nI m)) 3 6 (r 3 6 + 1)
  else if aW A r t ≤ 0 then aEnter A (ru r 1 t (aW A r t)) t m (aNext A t (r 0 t))
  else ru (ru r 1 t (aW A r t - 1)) 3 3 (r 3 3 + 1)
/-- one minute: trains 0 to k - 1 -/
def aMin (A : AL) (m : Nat) : Nat → RS → RS
  | 0, r => r
  | k + 1, r => if aMin A m k r 3 0 = -4 ∧ aMin A m k r 2 k = -4 ∧ A 3 (4 * k + 2) ≤ m then aStep A (aMin A m k r) k m else aMin A m k r
def aBeg : RS := fun a b => if a = 1 then -1 else if a = 3 ∧ 3 ≤ b then 0 else -4
def aTr (A : AL) : Nat → RS
  | 0 => aBeg
  | m + 1 => aMin A m (A 0 1) (aTr A m)
/-- places are as they should be -/
def Iv (A : AL) (r : RS) : Prop := ∀ t, t < A 0 1 → r 0 t = -4 ∨ ∃ p, p < A 0 0 ∧ r 0 t = nI p
/-- the class's row of a run -/
def RX (z : MX) (r : RS) : Prop := (∀ t, t < 4 → z.1 27 t = r 0 t) ∧ (∀ t, t < 4 → z.1 28 t = r 1 t) ∧ (∀ t, t < 4 → z.1 29 t = r 2 t) ∧ z.1 26 5 = r 3 0 ∧ (r 3 0 ≠ -4 → z.1 26 6 = r 3 1 ∧ z.1 26 7 = r 3 2) ∧ z.1 26 9 = r 3 6 ∧ z.1 26 10 = r 3 3 ∧ z.1 26 11 = r 3 4 ∧ z.1 26 12 = r 3 5
theorem aNext_in {A : AL} (hA : ROK A) {r : RS} (hI : Iv A r) {t : Nat} (ht : t < A 0 1) (hl : r 0 t ≠ aLast A t) : ∃ b, b < A 0 0 ∧ aNext A t (r 0 t) = nI b := by
  obtain ⟨h1, h2, h3, -, -⟩ := hA
  unfold aLast at hl
  unfold aNext
  rcases hI t ht with h | ⟨p, hp, h⟩
  · rw [h]
    by_cases w : A 3 (4 * t + 1) = 0
    · exact ⟨0, by omega, by simp [w]; rfl⟩
    · exact ⟨A 0 0 - 1, by omega, by simp [w]⟩
  · rw [h] at hl ⊢
    have hn : nI p ≠ -4 := nI_neg (by omega) _ (by decide)
    by_cases w : A 3 (4 * t + 1) = 0
    · simp only [w, if_true] at hl ⊢
      rw [if_neg hn]
      refine ⟨p + 1, ?_, nI_1 p⟩
      have : p ≠ A 0 0 - 1 := fun e => hl (by rw [e])
      omega
    · simp only [w, if_false] at hl ⊢
      rw [if_neg hn]
      have : p ≠ 0 := fun e => hl (by rw [e]; rfl)
      exact ⟨p - 1, by omega, nI_m1 (by omega)⟩
theorem s_fact {i : Nat} {z : MX} {A : AL} (hL : LX i z A) {t w : Nat} (hT : A 0 1 ≤ 4) (ht : t < A 0 1) (hw : w < 4) (post : Int32 → MX → Prop) (h : post (nI (A 3 (4 * t + w))) z) : pX0_fact i z (nI t) (nI w) post := by
  unfold pX0_fact
  have e : (4 : Int32) * nI t + nI w = nI (4 * t + w) := by
    rw [show (4 : Int32) = nI 4 from rfl, pk_mul, nI_add]
  rw [e, nI_clamp (by omega)]
  refine ⟨vp_in_nI (by omega) (by decide), ?_⟩
  rw [hL.2.2.2.2.2.2 t w ht hw]
  exact h
theorem s_last {i : Nat} {z : MX} {A : AL} (hL : LX i z A) (hA : ROK A) {t : Nat} (ht : t < A 0 1) (post : Int32 → MX → Prop) (h : post (aLast A t) z) : pX0_lastBlockOf i z (nI t) post := by
  unfold pX0_lastBlockOf
  refine s_fact hL hA.2.2.1 ht (w := 1) (by decide) _ ?_
  have hw := (hA.2.2.2.2 t ht).2.1
  unfold aLast at h
  refine ⟨fun c => ?_, fun c => ?_⟩
  · rw [if_neg (fun e => c (by rw [e]; rfl))] at h
    exact h
  · have e : A 3 (4 * t + 1) = 0 := (nI_eq (by omega) (by decide)).mp c
    rw [if_pos e] at h
    rw [hL.1, nI_m1 (by have := hA.1; omega)]
    exact h
theorem s_next {i : Nat} {z : MX} {A : AL} (hL : LX i z A) (hA : ROK A) {t : Nat} (ht : t < A 0 1) (p : Int32) (post : Int32 → MX → Prop) (h : post (aNext A t p) z) : pX0_nextBlockOf i z (nI t) p post := by
  unfold pX0_nextBlockOf
  refine s_fact hL hA.2.2.1 ht (w := 1) (by decide) _ ?_
  have hw := (hA.2.2.2.2 t ht).2.1
  unfold aNext at h
  refine ⟨fun c => ?_, fun c => ?_⟩
  · rw [if_neg (fun e => c (by rw [e]; rfl))] at h
    refine ⟨fun d => ?_, fun d => ?_⟩
    · rw [if_neg d] at h
      exact h
    · rw [if_pos d] at h
      rw [hL.1, nI_m1 (by have := hA.1; omega)]
      exact h
  · have e : A 3 (4 * t + 1) = 0 := (nI_eq (by omega) (by decide)).mp c
    rw [if_pos e] at h
    refine ⟨fun d => ?_, fun d => ?_⟩
    · rw [if_neg d] at h
      exact h
    · rw [if_pos d] at h
      exact h
theorem s_guarded {i : Nat} {z : MX} {A : AL} (hL : LX i z A) (x : Int32) (post : Int32 → MX → Prop) (h : post ((nI (A 0 3) >>> (x &&& 31)) &&& 1) z) : pX0_isGuarded i z x post := by
  unfold pX0_isGuarded
  rw [hL.2.1]
  refine ⟨fun c => ⟨Or.inl rfl, by rw [c] at h; exact h⟩, fun c => ⟨Or.inr rfl, ?_⟩⟩
  rcases pk_1or (x := nI (A 0 3) >>> (x &&& 31)) with e | e
  · exact absurd e c
  · rw [e] at h
    exact h
theorem s_trainIn {z : MX} (b : Int32) {T : Nat} (hT : T ≤ 4) (post : Int32 → MX → Prop) (h : post (occF (z.1 27) b 0 T) z) : pX2_trainIn z b (nI T) post := by
  have key : ∀ k j, j + k = T → post (occF (z.1 27) b j k) z → pX2_trainIn_L2 post (k + 1) z b (nI T) (nI j) := by
    intro k
    induction k with
    | zero =>
      intro j hj h
      show pX2_trainIn_l2 _ post z b (nI T) (nI j)
      unfold pX2_trainIn_l2
      exact ⟨fun _ => h, fun c => absurd (nI_le (by omega) (by omega)) c⟩
    | succ k ih =>
      intro j hj h
      show pX2_trainIn_l2 _ post z b (nI T) (nI j)
      unfold pX2_trainIn_l2
      rw [nI_clamp (by omega)]
      unfold occF at h
      refine ⟨fun c => absurd c (nI_ge (by omega) (by omega)), fun _ => ⟨vp_in_nI (by omega) (by decide), fun c => ?_, fun c => ?_⟩⟩
      · intro x hx
        rw [hx, nI_1]
        rw [if_neg c] at h
        exact ih (j + 1) (by omega) h
      · rw [if_pos c] at h
        exact h
  exact ⟨T + 1, key T 0 (by omega) h⟩
theorem occ_cong {f g : Nat → Int32} (b : Int32) : ∀ k j, (∀ t, j ≤ t → t < j + k → f t = g t) → occF f b j k = occF g b j k := by
  intro k
  induction k with
  | zero => intro j _; rfl
  | succ k ih =>
    intro j h
    unfold occF
    rw [h j (by omega) (by omega), ih (j + 1) (fun t h1 h2 => h t (by omega) (by omega))]
theorem ru_g (r : RS) (c k : Nat) (v : Int32) (a b : Nat) : ru r c k v a b = if a = c ∧ b = k then v else r a b := rfl
set_option maxHeartbeats 2000000 in
theorem sX_enter {i : Nat} (hi : i < 4) {z : MX} {A : AL} (hL : LX i z A) (hA : ROK A) {r : RS} (hR : RX z r) {t : Nat} (ht : t < A 0 1) (m : Nat) (b : Int32) (post : MX → Prop) (h : ∀ z1, fr 26 29 z z1 → RX z1 (aEnter A r t m b) → post z1) : pX2_enter i z (nI t) b (nI m) post := by
  unfold pX2_enter
  have hT := hA.2.2.1
  rw [hL.2.2.2.1]
  refine s_trainIn b hT _ ?_
  obtain ⟨r1, r2, r3, r4, r5, r6, r7, r8, r9⟩ := hR
  have eo : occF (z.1 27) b 0 (A 0 1) = occF (r 0) b 0 (A 0 1) := occ_cong b _ _ (fun u _ hu => r1 u (by omega))
  rw [eo]
  unfold aEnter at h
  refine ⟨fun c => ?_, fun c => ?_⟩
  · rw [if_neg c] at h
    refine s_guarded hL b _ ?_
    refine ⟨fun d => ?_, fun d => ?_⟩
    · rw [if_pos d] at h
      intro z1 e1 z2 e2 z3 e3
      refine h z3 (by rw [e3, e2, e1]; exact ((((fr.rf 26 29 z).mw _ _ (by omega) (by omega)).mw _ _ (by omega) (by omega)).mw _ _ (by omega) (by omega))) ?_
      rw [e3, e2, e1]
      unfold RX
      simp only [mw_g, ru_g]
      simp
      exact ⟨r1, r2, r3, r6, r7, r8, r9⟩
    · rw [if_neg d] at h
      intro z1 e1
      refine h z1 (by rw [e1]; exact (fr.rf 26 29 z).mw _ _ (by omega) (by omega)) ?_
      rw [e1]
      unfold RX
      simp only [mw_g, ru_g]
      simp
      exact ⟨r1, r2, r3, r4, r5, r6, r7, r8, r9⟩
  · rw [if_pos c] at h
    rw [nI_clamp (by omega)]
    refine ⟨vp_in_nI (by omega) (by decide), fun z1 e1 => ⟨vp_in_nI (by omega) (by decide), fun z2 e2 z3 e3 => ?_⟩⟩
    refine h z3 (by rw [e3, e2, e1]; exact ((((fr.rf 26 29 z).mw _ _ (by omega) (by omega)).mw _ _ (by omega) (by omega)).mw _ _ (by omega) (by omega))) ?_
    rw [e3, e2, e1]
    unfold RX
    simp only [mw_g, ru_g]
    simp
    refine ⟨fun u hu => ?_, fun u hu => ?_, r3, r4, r5, r6, r7, r8, ?_⟩
    · by_cases e : u = t
      · simp [e]
      · simp [e, r1 u hu]
    · by_cases e : u = t
      · simp [e]
      · simp [e, r2 u hu]
    · rw [r9]
