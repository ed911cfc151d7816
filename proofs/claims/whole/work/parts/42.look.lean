/-! look -/
def akN (N : Nat) (T : Nat → Int32) (a : Nat) : Nat → Nat
  | 0 => 0
  | o + 1 => akN N T a o + (if N / 2 ^ a % 2 = 1 ∧ N / 2 ^ o % 2 = 1 ∧ T a = T o then 1 else 0)
theorem akN_s (N : Nat) (T : Nat → Int32) (a o : Nat) : akN N T a (o + 1) = akN N T a o + (if N / 2 ^ a % 2 = 1 ∧ N / 2 ^ o % 2 = 1 ∧ T a = T o then 1 else 0) := rfl
theorem akN_le (N : Nat) (T : Nat → Int32) (a : Nat) : ∀ o, akN N T a o ≤ o := by
  intro o
  induction o with
  | zero => exact Nat.le_refl _
  | succ o ih =>
    rw [akN_s]
    by_cases c : N / 2 ^ a % 2 = 1 ∧ N / 2 ^ o % 2 = 1 ∧ T a = T o
    · rw [if_pos c]; omega
    · rw [if_neg c]; omega
theorem akN_0 {N : Nat} {T : Nat → Int32} {a : Nat} (h : ¬ N / 2 ^ a % 2 = 1) : ∀ o, akN N T a o = 0 := by
  intro o
  induction o with
  | zero => rfl
  | succ o ih => rw [akN_s, ih, if_neg (fun w => h w.1)]
def mxN (N : Nat) (T : Nat → Int32) : Nat → Nat
  | 0 => 0
  | a + 1 => max (mxN N T a) (akN N T a 4)
theorem mxN_s (N : Nat) (T : Nat → Int32) (a : Nat) : mxN N T (a + 1) = max (mxN N T a) (akN N T a 4) := rfl
theorem mxN_le (N : Nat) (T : Nat → Int32) : ∀ a, mxN N T a ≤ 4 := by
  intro a
  induction a with
  | zero => exact Nat.zero_le _
  | succ a ih =>
    rw [mxN_s]
    have := akN_le N T a 4
    omega
/-- T f m: the track -/
def lkC (N : Nat) (T : Nat → Nat → Int32) : Nat → Nat
  | 0 => pcN N
  | m + 1 => if mxN N (fun f => T f m) 4 < lkC N T m then mxN N (fun f => T f m) 4 else lkC N T m
def lkB (N : Nat) (T : Nat → Nat → Int32) : Nat → Int32
  | 0 => -4
  | m + 1 => if mxN N (fun f => T f m) 4 < lkC N T m then nI m else lkB N T m
theorem lk_y {N : Nat} {T : Nat → Nat → Int32} {m : Nat} (h : mxN N (fun f => T f m) 4 < lkC N T m) : lkC N T (m + 1) = mxN N (fun f => T f m) 4 ∧ lkB N T (m + 1) = nI m := ⟨if_pos h, if_pos h⟩
theorem lk_n {N : Nat} {T : Nat → Nat → Int32} {m : Nat} (h : ¬ mxN N (fun f => T f m) 4 < lkC N T m) : lkC N T (m + 1) = lkC N T m ∧ lkB N T (m + 1) = lkB N T m := ⟨if_neg h, if_neg h⟩
theorem lkC_le {N : Nat} (hN : N < 256) (T : Nat → Nat → Int32) : ∀ m, lkC N T m ≤ 8 := by
  intro m
  induction m with
  | zero => exact pcN_le N hN
  | succ m ih =>
    by_cases c : mxN N (fun f => T f m) 4 < lkC N T m
    · rw [(lk_y c).1]; omega
    · rw [(lk_n c).1]; exact ih
theorem ma_s5 (post : Int32 → MX → Prop) (n : Nat) : pX4_mostAlike_L5 post (n + 1) = pX4_mostAlike_l5 (pX4_mostAlike_L5 post n) post := rfl
theorem ma_s17 (r : MX → Int32 → Int32 → Int32 → Int32 → Prop) (post : Int32 → MX → Prop) (n : Nat) : pX4_mostAlike_L17 r post (n + 1) = pX4_mostAlike_l17 r (pX4_mostAlike_L17 r post n) post := rfl
theorem bm_s11 (post : Int32 → MX → Prop) (n : Nat) : pX4_bestMinute_L11 post (n + 1) = pX4_bestMinute_l11 (pX4_bestMinute_L11 post n) post := rfl
theorem lo_s39 (post : Int32 → MX → Prop) (n : Nat) : pX8_look_L39 post (n + 1) = pX8_look_l39 (pX8_look_L39 post n) post := rfl
theorem lo_s52 (r : MX → Int32 → Int32 → Int32 → Int32 → Int32 → Prop) (post : Int32 → MX → Prop) (n : Nat) : pX8_look_L52 r post (n + 1) = pX8_look_l52 r (pX8_look_L52 r post n) post := rfl
theorem lo_s64 (r : MX → Int32 → Int32 → Int32 → Int32 → Int32 → Prop) (r2 : MX → Int32 → Int32 → Int32 → Int32 → Int32 → Int32 → Int32 → Prop) (post : Int32 → MX → Prop) (n : Nat) : pX8_look_L64 r r2 post (n + 1) = pX8_look_l64 r r2 (pX8_look_L64 r r2 post n) post := rfl
theorem two_bits : ∀ N, N < 16 → ∀ a, a < 4 → ∀ o, o < 4 → ((((nI N >>> (nI a &&& 31)) &&& (nI N >>> (nI o &&& 31))) &&& (1 : Int32)) = 0 ↔ ¬ (N / 2 ^ a % 2 = 1 ∧ N / 2 ^ o % 2 = 1)) := by decide +kernel
set_option maxHeartbeats 2000000 in
theorem sX_alike {z : MX} {N m : Nat} {T : Nat → Nat → Int32} (hN : N < 16) (hm : m < 120) (hT : ∀ f m, f < 4 → m < 120 → z.1 37 (f * 120 + m) = T f m) (post : Int32 → MX → Prop) (h : post (nI (mxN N (fun f => T f m) 4)) z) : pX4_mostAlike z (nI N) (nI m) post := by
  have inn : ∀ a, a < 4 → ∀ rec5 : MX → Int32 → Int32 → Int32 → Int32 → Prop, rec5 z (nI N) (nI m) (nI (mxN N (fun f => T f m) (a + 1))) (nI (a + 1)) → ∀ p o, o + p = 4 → pX4_mostAlike_L17 rec5 post (p + 1) z (nI N) (nI m) (nI (mxN N (fun f => T f m) a)) (nI a) (nI (akN N (fun f => T f m) a o)) (nI o) := by
    intro a ha rec5 hr p
    induction p with
    | zero =>
      intro o ho
      rw [ma_s17]
      unfold pX4_mostAlike_l17
      have eo : o = 4 := by omega
      rw [eo]
      have b1 := akN_le N (fun f => T f m) a 4
      have b2 := mxN_le N (fun f => T f m) a
      refine ⟨fun _ x hx y hy => ?_, fun c => absurd (by decide) c⟩
      rw [hy, nI_1]
      have ex : x = nI (mxN N (fun f => T f m) (a + 1)) := by
        rw [hx, mxN_s]
        by_cases q : mxN N (fun f => T f m) a < akN N (fun f => T f m) a 4
        · rw [if_pos (nI_lt q (by omega))]; congr 1; omega
        · rw [if_neg (nI_nlt (by omega) (by omega))]; congr 1; omega
      rw [ex]
      exact hr
    | succ p ih =>
      intro o ho
      rw [ma_s17]
      unfold pX4_mostAlike_l17
      have e1 : nI a * (120 : Int32) + nI m = nI (a * 120 + m) := by rw [show (120 : Int32) = nI 120 from rfl, pk_mul, nI_add]
      have e2 : nI o * (120 : Int32) + nI m = nI (o * 120 + m) := by rw [show (120 : Int32) = nI 120 from rfl, pk_mul, nI_add]
      rw [two_bits N hN a ha o (by omega), e1, e2, nI_clamp (by omega), nI_clamp (by omega), hT a m ha hm, hT o m (by omega) hm]
      have iho := ih (o + 1) (by omega)
      rw [akN_s] at iho
      unfold pX4_mostAlike_b67
      refine ⟨fun c => absurd c (nI_ge (a := o) (b := 4) (by omega) (by decide)), fun _ => ⟨fun c x hx => ?_, fun c => ⟨vp_in_nI (by omega) (by decide), vp_in_nI (by omega) (by decide), fun d x hx => ?_, fun d y hy x hx => ?_⟩⟩⟩
      · rw [if_neg (fun w => c ⟨w.1, w.2.1⟩), Nat.add_zero] at iho
        rw [hx, nI_1]; exact iho
      · rw [if_neg (fun w => d w.2.2), Nat.add_zero] at iho
        rw [hx, nI_1]; exact iho
      · have c := Classical.byContradiction c
        rw [if_pos ⟨c.1, c.2, d⟩] at iho
        rw [hx, hy, nI_1, nI_1]; exact iho
  have key : ∀ p a, a + p = 4 → pX4_mostAlike_L5 post (p + 1) z (nI N) (nI m) (nI (mxN N (fun f => T f m) a)) (nI a) := by
    intro p
    induction p with
    | zero =>
      intro a ha
      rw [ma_s5]
      unfold pX4_mostAlike_l5
      have ea : a = 4 := by omega
      rw [ea]
      exact ⟨fun _ => h, fun c => absurd (by decide) c⟩
    | succ p ih =>
      intro a ha
      rw [ma_s5]
      unfold pX4_mostAlike_l5
      exact ⟨fun c => absurd c (nI_ge (a := a) (b := 4) (by omega) (by decide)), fun _ => ⟨5, inn a (by omega) _ (ih (a + 1) (by omega)) 4 0 (by omega)⟩⟩
  exact ⟨5, key 4 0 (by omega)⟩
theorem NX_w337 {z z1 : MX} (h : NX z z1) (v : Int32) : NX z (mw z1 33 7 v) := ⟨fun a ha => by rw [mw_n _ _ _ (by omega)]; exact h.1 a ha, by rw [mw_n _ _ _ (by omega)]; exact h.2.1, by rw [mw_k _ _ (by decide)]; exact h.2.2⟩
theorem sX_best {z z0 : MX} {N : Nat} {T : Nat → Nat → Int32} (hN : N < 16) (hT : ∀ f m, f < 4 → m < 120 → z.1 37 (f * 120 + m) = T f m) (hz : NX z0 z) (post : Int32 → MX → Prop) (h : ∀ z1, NX z0 z1 → z1.1 33 7 = (if lkB N T 120 = -4 then -4 else nI (lkC N T 120)) → post (lkB N T 120) z1) : pX4_bestMinute z (nI N) post := by
  unfold pX4_bestMinute
  refine sX_bits (by omega) _ ?_
  have key : ∀ p m, m + p = 120 → pX4_bestMinute_L11 post (p + 1) z (nI N) (nI (lkC N T m)) (lkB N T m) (nI m) := by
    intro p
    induction p with
    | zero =>
      intro m hm
      rw [bm_s11]
      unfold pX4_bestMinute_l11
      have em : m = 120 := by omega
      rw [em]
      unfold pX4_bestMinute_b58
      refine ⟨fun _ => ⟨fun w z1 e1 => ?_, fun w z1 e1 => ?_⟩, fun c => absurd (by decide) c⟩
      · rw [if_neg w] at h
        exact h z1 (by rw [e1]; exact NX_w337 hz _) (by rw [e1, mw_s])
      · rw [if_pos w] at h
        exact h z1 (by rw [e1]; exact NX_w337 hz _) (by rw [e1, mw_s])
    | succ p ih =>
      intro m hm
      rw [bm_s11]
      unfold pX4_bestMinute_l11
      have b1 := lkC_le (N := N) (by omega) T m
      have b2 := mxN_le N (fun f => T f m) 4
      refine ⟨fun c => absurd c (nI_ge (a := m) (b := 120) (by omega) (by decide)), fun _ => sX_alike hN (by omega) hT _ ?_⟩
      rw [nI_leI (by omega) (by omega)]
      unfold pX4_bestMinute_b39
      refine ⟨fun c x hx => ?_, fun c x hx => ?_⟩
      · have w : ¬ mxN N (fun f => T f m) 4 < lkC N T m := by omega
        rw [hx, nI_1, ← (lk_n w).1, ← (lk_n w).2]
        exact ih (m + 1) (by omega)
      · have w : mxN N (fun f => T f m) 4 < lkC N T m := by omega
        have ihm := ih (m + 1) (by omega)
        rw [(lk_y w).1, (lk_y w).2] at ihm
        rw [hx, nI_1]
        exact ihm
  exact ⟨121, key 120 0 (by omega)⟩
set_option maxHeartbeats 4000000 in
theorem sM_best {z : MX} {N w : Nat} {T : Nat → Nat → Int32} (hN : N < 16) (hw : w < 2) (hT : ∀ f m, f < 4 → m < 120 → z.1 15 (4 * m + f) = T f m) (post : Int32 → MX → Prop) (h : post (if w = 0 then lkB N T 120 else if lkB N T 120 = -4 then -4 else nI (lkC N T 120)) z) : ∃ n, pX8_look_L39 post n z (nI w) (nI N) (nI (pcN N)) (-4 : Int32) (0 : Int32) := by
  have i64 : ∀ m, m < 120 → ∀ a, a < 4 → ∀ r39 r52 C B, (∀ a', a' = a → r52 z (nI w) (nI N) C B (nI m) (nI (mxN N (fun f => T f m) (a + 1))) (nI (a + 1))) → ∀ p o, o + p = 4 → pX8_look_L64 r39 r52 post (p + 1) z (nI w) (nI N) C B (nI m) (nI (mxN N (fun f => T f m) a)) (nI a) (nI (akN N (fun f => T f m) a o)) (nI o) := by
    intro m hm a ha r39 r52 C B hr p
    have b1 := akN_le N (fun f => T f m) a 4
    have b2 := mxN_le N (fun f => T f m) a
    have fin : pX8_look_b133 r39 r52 post z (nI w) (nI N) C B (nI m) (nI (mxN N (fun f => T f m) a)) (nI a) (nI (akN N (fun f => T f m) a 4)) := by
      unfold pX8_look_b133 pX8_look_b147
      rw [nI_leI (by omega) (by omega)]
      have hr' := hr a rfl
      rw [mxN_s] at hr'
      refine ⟨fun c x hx => ?_, fun c x hx => ?_⟩
      · rw [Nat.max_eq_left c] at hr'
        rw [hx, nI_1]; exact hr'
      · rw [Nat.max_eq_right (by omega)] at hr'
        rw [hx, nI_1]; exact hr'
    induction p with
    | zero =>
      intro o ho
      rw [lo_s64]
      unfold pX8_look_l64
      have eo : o = 4 := by omega
      rw [eo]
      exact ⟨fun _ => fin, fun c => absurd (by decide) c⟩
    | succ p ih =>
      intro o ho
      rw [lo_s64]
      unfold pX8_look_l64
      have e1 : (4 : Int32) * nI m + nI a = nI (4 * m + a) := by rw [show (4 : Int32) = nI 4 from rfl, pk_mul, nI_add]
      have e2 : (4 : Int32) * nI m + nI o = nI (4 * m + o) := by rw [show (4 : Int32) = nI 4 from rfl, pk_mul, nI_add]
      have b3 : N / 2 ^ a % 2 < 2 := Nat.mod_lt _ (by decide)
      have b4 : N / 2 ^ o % 2 < 2 := Nat.mod_lt _ (by decide)
      have iho := ih (o + 1) (by omega)
      rw [akN_s] at iho
      unfold pX8_look_b123 pX8_look_b124
      rw [bitN (by omega) (by omega), bitN (by omega) (by omega), e1, e2, nI_clamp (by omega), nI_clamp (by omega), hT a m ha hm, hT o m (by omega) hm]
      refine ⟨fun c => absurd c (nI_ge (a := o) (b := 4) (by omega) (by decide)), fun _ => ⟨fun c => ?_, fun c => ?_⟩⟩
      · have c' : ¬ N / 2 ^ a % 2 = 1 := fun e => c (by rw [e]; rfl)
        rw [akN_0 c' o]
        rw [akN_0 c' 4] at fin
        exact fin
      · have c' : N / 2 ^ a % 2 = 1 := (n2_1 b3).mp c
        refine ⟨fun d x hx s hs => ?_, fun d => ⟨vp_in_nI (by omega) (by decide), vp_in_nI (by omega) (by decide), fun u x hx s hs => ?_, fun u x hx s hs => ?_⟩⟩
        · rw [if_neg (fun q => d (by rw [q.2.1]; rfl)), Nat.add_zero] at iho
          rw [hs, hx, nI_1, Int32.add_zero]; exact iho
        · rw [if_neg (fun q => u q.2.2), Nat.add_zero] at iho
          rw [hs, hx, nI_1, Int32.add_zero]; exact iho
        · rw [if_pos ⟨c', (n2_1 b4).mp d, u⟩] at iho
          rw [hs, hx, nI_1, nI_1]; exact iho
  have i52 : ∀ m, m < 120 → ∀ r39 : MX → Int32 → Int32 → Int32 → Int32 → Int32 → Prop, r39 z (nI w) (nI N) (nI (lkC N T (m + 1))) (lkB N T (m + 1)) (nI (m + 1)) → ∀ p a, a + p = 4 → pX8_look_L52 r39 post (p + 1) z (nI w) (nI N) (nI (lkC N T m)) (lkB N T m) (nI m) (nI (mxN N (fun f => T f m) a)) (nI a) := by
    intro m hm r39 hr p
    induction p with
    | zero =>
      intro a ha
      rw [lo_s52]
      unfold pX8_look_l52
      have ea : a = 4 := by omega
      rw [ea]
      have b1 := lkC_le (N := N) (by omega) T m
      have b2 := mxN_le N (fun f => T f m) 4
      unfold pX8_look_b169 pX8_look_b185
      rw [nI_leI (by omega) (by omega)]
      refine ⟨fun _ => ⟨fun c => ⟨fun _ x hx => ?_, fun d => absurd c d⟩, fun c => ⟨fun d => absurd d c, fun _ x hx => ?_⟩⟩, fun c => absurd (by decide) c⟩
      · have q : ¬ mxN N (fun f => T f m) 4 < lkC N T m := by omega
        rw [(lk_n q).1, (lk_n q).2] at hr
        rw [hx, nI_1]; exact hr
      · have q : mxN N (fun f => T f m) 4 < lkC N T m := by omega
        rw [(lk_y q).1, (lk_y q).2] at hr
        rw [hx, nI_1]; exact hr
    | succ p ih =>
      intro a ha
      rw [lo_s52]
      unfold pX8_look_l52
      refine ⟨fun c => absurd c (nI_ge (a := a) (b := 4) (by omega) (by decide)), fun _ => ⟨5, ?_⟩⟩
      exact i64 m hm a (by omega) _ _ _ _ (fun _ _ => ih (a + 1) (by omega)) 4 0 (by omega)
  have key : ∀ p m, m + p = 120 → pX8_look_L39 post (p + 1) z (nI w) (nI N) (nI (lkC N T m)) (lkB N T m) (nI m) := by
    intro p
    induction p with
    | zero =>
      intro m hm
      rw [lo_s39]
      unfold pX8_look_l39
      have em : m = 120 := by omega
      rw [em]
      unfold pX8_look_b204
      refine ⟨fun _ => ⟨fun c => ?_, fun c => ⟨fun d => ?_, fun d => ?_⟩⟩, fun c => absurd (by decide) c⟩
      · by_cases q : w = 0
        · rw [if_pos q] at h; exact h
        · rw [if_neg q, if_pos c] at h; rw [c]; exact h
      · rw [if_neg (fun q => d (by rw [q]; rfl)), if_neg c] at h
        exact h
      · rw [if_pos ((nI_eq (b := 0) (by omega) (by decide)).mp d)] at h
        exact h
    | succ p ih =>
      intro m hm
      rw [lo_s39]
      unfold pX8_look_l39
      refine ⟨fun c => absurd c (nI_nlt (a := 119) (b := m) (by omega) (by decide)), fun _ => ⟨5, ?_⟩⟩
      exact i52 m (by omega) _ (ih (m + 1) (by omega)) 4 0 (by omega)
  exact ⟨121, key 120 0 (by omega)⟩
theorem q_look {zx zm : MX} (h : Rel zx zm) (x u : Int32) : pX7_look zx x u (fun r zx1 => pX8_look zm x u (fun r2 zm1 => r = r2 ∧ Rel zx1 zm1)) := by
  have h0 := h
  obtain ⟨A, a, b, c, d, e, ⟨n, n1, n2, n3, n4⟩, g, i, j, k⟩ := h
  have hT := a.2.2.1
  unfold pX7_look pX8_look
  rcases ix x (n := A 0 1) (by omega) with hx | ⟨y, hy, rfl⟩
  · exact sX_trN b hx ⟨fun _ => sM_trN c a hx ⟨fun _ => ⟨rfl, h0⟩, fun q => absurd rfl q⟩, fun q => absurd rfl q⟩
  · have hS : SX zx (zm.1 14) n := ⟨n1, n2, fun k hk => n4 k hk⟩
    refine sX_trY b a hy ⟨fun q => absurd q (by decide), fun _ => ?_⟩
    rcases ix u (n := 2) (by decide) with hu | ⟨w, hw, rfl⟩
    · exact c01N hu ⟨fun q => absurd rfl q, fun _ => sM_trY c a hy ⟨fun q => absurd q (by decide), fun _ => cInN zm 1 (by decide) (by decide) hu ⟨fun q => absurd rfl q, fun _ => ⟨rfl, h0⟩⟩⟩⟩
    · have hN : obN (fitF (zm.1 14) A y n) 4 < 16 := obN_lt _ 4
      refine c01Y hw ⟨fun _ => sX_fit b a hS hy _ (fun z1 m1 t1 => sX_best hN t1 m1 _ (fun z2 m2 e2 => ?_)), fun q => absurd q (by decide)⟩
      have ref : ∀ v : Int32, v = (if w = 0 then lkB (obN (fitF (zm.1 14) A y n) 4) (trk A y) 120 else if lkB (obN (fitF (zm.1 14) A y n) 4) (trk A y) 120 = -4 then -4 else nI (lkC (obN (fitF (zm.1 14) A y n) 4) (trk A y) 120)) → pX8_isTrain zm (nI y) (fun (r2 : Int32) (z2' : MX) => ((r2 = 0 → v = (-1 : Int32) ∧ Rel z2 z2') ∧ (¬ r2 = 0 → pX8_in z2' (Int32.toInt64 (nI w)) (0 : Int64) (1 : Int64) (fun (r12 : Int32) (z12 : MX) => ((¬ r12 = 0 → pX8_faithsOf z12 (nI y) (fun (r22 : Int32) (z22 : MX) => pX8_bitsOf z22 r22 (fun (r27 : Int32) (z27 : MX) => ∃ n, pX8_look_L39 (fun r2 zm1 => v = r2 ∧ Rel z2 zm1) n z27 (nI w) r22 r27 (-4 : Int32) (0 : Int32)))) ∧ (r12 = 0 → v = (-1 : Int32) ∧ Rel z2 z12)))))) := by
        intro v hv
        refine sM_trY c a hy ⟨fun q => absurd q (by decide), fun _ => cInY zm 1 (by decide) (by decide) (by omega) ⟨fun _ => sM_fit c a n1 n3 (fun k hk => (n4 k hk).2.2.2) hy _ (fun y1 w1 t2 => sM_bits (by omega) _ (sM_best hN hw t2 _ ?_)), fun q => absurd q (by decide)⟩⟩
        rw [← hv]
        exact ⟨rfl, h0.N m2 w1⟩
      refine ⟨fun q => ref _ ?_, fun q => ref _ ?_⟩
      · rw [if_neg (fun e => q (by rw [e]; rfl)), e2]
      · rw [if_pos ((nI_eq (b := 0) (by omega) (by decide)).mp q)]
