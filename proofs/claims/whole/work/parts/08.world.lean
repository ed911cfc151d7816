/-! THE STATE: ints by cell and place, longs by number. mf: a cell's whole content; mw: one place; ml: a long. -/
abbrev MX : Type := (Nat → Nat → Int32) × (Nat → Int64)
def mf (z : MX) (c : Nat) (f : Nat → Int32) : MX := (fun a => if a = c then f else z.1 a, z.2)
def mw (z : MX) (c k : Nat) (v : Int32) : MX := mf z c (upd (z.1 c) k v)
def ml (z : MX) (k : Nat) (v : Int64) : MX := (z.1, fun a => if a = k then v else z.2 a)
def fxl (ad : Nat → Nat) (z : MX) (i : Nat) : List Value := [.int (z.1 (4 * i) 0), .int (z.1 (4 * i) 1), .int (z.1 (4 * i) 2), .int (z.1 (4 * i) 3), .ref (ad (4 * i + 1)), .ref (ad (4 * i + 2)), .ref (ad (4 * i + 3))]
def fxs (ad : Nat → Nat) (z : MX) (j : Nat) : List Value := [.ref (ad (17 + 2 * j)), .int (z.1 (16 + 2 * j) 1), .int (z.1 (16 + 2 * j) 2)]
def fx_24 (ad : Nat → Nat) (z : MX) : List Value := [.ref (ad 25), .int (z.1 24 1), .int (z.1 24 2), .int (z.1 24 3), .int (z.1 24 4), .int (z.1 24 5), .int (z.1 24 6), .int (z.1 24 7), .int (z.1 24 8)]
def fx_26 (ad : Nat → Nat) (z : MX) : List Value := [.ref (ad 27), .ref (ad 28), .ref (ad 29), .ref (ad 30), .int (z.1 26 4), .int (z.1 26 5), .int (z.1 26 6), .int (z.1 26 7), .int (z.1 26 8), .int (z.1 26 9), .int (z.1 26 10), .int (z.1 26 11), .int (z.1 26 12)]
def fx_31 (ad : Nat → Nat) (z : MX) : List Value := [.ref (ad (4 * 1)), .ref (ad 26), .int (z.1 31 2)]
def fx_32 (ad : Nat → Nat) (z : MX) : List Value := [.ref (ad (4 * 1)), .ref (ad 26), .long (z.2 0), .long (z.2 1), .long (z.2 2)]
def fx_33 (ad : Nat → Nat) (z : MX) : List Value := [.ref (ad (4 * 1)), .ref (ad 26), .ref (ad 34), .ref (ad 35), .ref (ad 36), .ref (ad 37), .int (z.1 33 6), .int (z.1 33 7)]
def fx_38 (ad : Nat → Nat) (z : MX) : List Value := [.ref (ad (4 * 0)), .ref (ad (4 * 1)), .ref (ad 24), .ref (ad 26), .ref (ad 31), .ref (ad 32), .ref (ad 33), .ref (ad 39), .ref (ad 40), .ref (ad 41), .int (z.1 38 10), .int (z.1 38 11)]
/-- the class: lines 0 to 3 (line, trial, two images), sheets, tape, run, tries, odds, sightings, the object -/
def WX (q : Nat → ClassId) (ad : Nat → Nat) (z : MX) : va_W := [(ad (4 * 0), .inr (0, fxl ad z 0)),
  (ad (4 * 0 + 1), .inl (q 0, 8, .inl (z.1 (4 * 0 + 1)))),
  (ad (4 * 0 + 2), .inl (q 0, 8, .inl (z.1 (4 * 0 + 2)))),
  (ad (4 * 0 + 3), .inl (q 0, 16, .inl (z.1 (4 * 0 + 3)))),
  (ad (4 * 1), .inr (0, fxl ad z 1)),
  (ad (4 * 1 + 1), .inl (q 0, 8, .inl (z.1 (4 * 1 + 1)))),
  (ad (4 * 1 + 2), .inl (q 0, 8, .inl (z.1 (4 * 1 + 2)))),
  (ad (4 * 1 + 3), .inl (q 0, 16, .inl (z.1 (4 * 1 + 3)))),
  (ad (4 * 2), .inr (0, fxl ad z 2)),
  (ad (4 * 2 + 1), .inl (q 0, 8, .inl (z.1 (4 * 2 + 1)))),
  (ad (4 * 2 + 2), .inl (q 0, 8, .inl (z.1 (4 * 2 + 2)))),
  (ad (4 * 2 + 3), .inl (q 0, 16, .inl (z.1 (4 * 2 + 3)))),
  (ad (4 * 3), .inr (0, fxl ad z 3)),
  (ad (4 * 3 + 1), .inl (q 0, 8, .inl (z.1 (4 * 3 + 1)))),
  (ad (4 * 3 + 2), .inl (q 0, 8, .inl (z.1 (4 * 3 + 2)))),
  (ad (4 * 3 + 3), .inl (q 0, 16, .inl (z.1 (4 * 3 + 3)))),
  (ad (16 + 2 * 0), .inr (3, fxs ad z 0)),
  (ad (17 + 2 * 0), .inl (q 0, 40, .inl (z.1 (17 + 2 * 0)))),
  (ad (16 + 2 * 1), .inr (3, fxs ad z 1)),
  (ad (17 + 2 * 1), .inl (q 0, 40, .inl (z.1 (17 + 2 * 1)))),
  (ad (16 + 2 * 2), .inr (3, fxs ad z 2)),
  (ad (17 + 2 * 2), .inl (q 0, 40, .inl (z.1 (17 + 2 * 2)))),
  (ad (16 + 2 * 3), .inr (3, fxs ad z 3)),
  (ad (17 + 2 * 3), .inl (q 0, 40, .inl (z.1 (17 + 2 * 3)))),
  (ad 24, .inr (5, fx_24 ad z)),
  (ad 25, .inl (q 0, 160, .inl (z.1 25))),
  (ad 26, .inr (2, fx_26 ad z)),
  (ad 27, .inl (q 0, 4, .inl (z.1 27))),
  (ad 28, .inl (q 0, 4, .inl (z.1 28))),
  (ad 29, .inl (q 0, 4, .inl (z.1 29))),
  (ad 30, .inl (q 0, 480, .inl (z.1 30))),
  (ad 31, .inr (6, fx_31 ad z)),
  (ad 32, .inr (1, fx_32 ad z)),
  (ad 33, .inr (4, fx_33 ad z)),
  (ad 34, .inl (q 0, 6, .inl (z.1 34))),
  (ad 35, .inl (q 0, 6, .inl (z.1 35))),
  (ad 36, .inl (q 0, 6, .inl (z.1 36))),
  (ad 37, .inl (q 0, 480, .inl (z.1 37))),
  (ad 38, .inr (7, fx_38 ad z)),
  (ad 39, .inl (q 2, 2, .inr (.inr (.inr (.inr (fun n => some (ad (4 * (2 + n))))))))),
  (ad 40, .inl (q 1, 2, .inl (z.1 40))),
  (ad 41, .inl (q 3, 4, .inr (.inr (.inr (.inr (fun n => some (ad (16 + 2 * n))))))))]
theorem wxl (q : Nat → ClassId) (ad : Nat → Nat) (z : MX) {i : Nat} (hi : i < 4) : (WX q ad z)[4 * i]? = some (ad (4 * i), .inr (0, fxl ad z i)) := by
  match i, hi with
  | 0, _ => rfl
  | 1, _ => rfl
  | 2, _ => rfl
  | 3, _ => rfl
  | i + 4, h => exact absurd h (by omega)
theorem wxl1 (q : Nat → ClassId) (ad : Nat → Nat) (z : MX) {i : Nat} (hi : i < 4) : (WX q ad z)[4 * i + 1]? = some (ad (4 * i + 1), .inl (q 0, 8, .inl (z.1 (4 * i + 1)))) := by
  match i, hi with
  | 0, _ => rfl
  | 1, _ => rfl
  | 2, _ => rfl
  | 3, _ => rfl
  | i + 4, h => exact absurd h (by omega)
theorem axl1 (q : Nat → ClassId) (ad : Nat → Nat) (z : MX) {i : Nat} (hi : i < 4) (f : Nat → Int32) : (WX q ad z).set (4 * i + 1) (ad (4 * i + 1), .inl (q 0, 8, .inl f)) = WX q ad (mf z (4 * i + 1) f) := by
  match i, hi with
  | 0, _ => rfl
  | 1, _ => rfl
  | 2, _ => rfl
  | 3, _ => rfl
  | i + 4, h => exact absurd h (by omega)
theorem wxl2 (q : Nat → ClassId) (ad : Nat → Nat) (z : MX) {i : Nat} (hi : i < 4) : (WX q ad z)[4 * i + 2]? = some (ad (4 * i + 2), .inl (q 0, 8, .inl (z.1 (4 * i + 2)))) := by
  match i, hi with
  | 0, _ => rfl
  | 1, _ => rfl
  | 2, _ => rfl
  | 3, _ => rfl
  | i + 4, h => exact absurd h (by omega)
theorem axl2 (q : Nat → ClassId) (ad : Nat → Nat) (z : MX) {i : Nat} (hi : i < 4) (f : Nat → Int32) : (WX q ad z).set (4 * i + 2) (ad (4 * i + 2), .inl (q 0, 8, .inl f)) = WX q ad (mf z (4 * i + 2) f) := by
  match i, hi with
  | 0, _ => rfl
  | 1, _ => rfl
  | 2, _ => rfl
  | 3, _ => rfl
  | i + 4, h => exact absurd h (by omega)
theorem wxl3 (q : Nat → ClassId) (ad : Nat → Nat) (z : MX) {i : Nat} (hi : i < 4) : (WX q ad z)[4 * i + 3]? = some (ad (4 * i + 3), .inl (q 0, 16, .inl (z.1 (4 * i + 3)))) := by
  match i, hi with
  | 0, _ => rfl
  | 1, _ => rfl
  | 2, _ => rfl
  | 3, _ => rfl
  | i + 4, h => exact absurd h (by omega)
theorem axl3 (q : Nat → ClassId) (ad : Nat → Nat) (z : MX) {i : Nat} (hi : i < 4) (f : Nat → Int32) : (WX q ad z).set (4 * i + 3) (ad (4 * i + 3), .inl (q 0, 16, .inl f)) = WX q ad (mf z (4 * i + 3) f) := by
  match i, hi with
  | 0, _ => rfl
  | 1, _ => rfl
  | 2, _ => rfl
  | 3, _ => rfl
  | i + 4, h => exact absurd h (by omega)
theorem pxl_0 (q : Nat → ClassId) (ad : Nat → Nat) (z : MX) {i : Nat} (hi : i < 4) (v : Int32) : (WX q ad z).set (4 * i) (ad (4 * i), .inr (0, (fxl ad z i).set 0 (.int v))) = WX q ad (mw z (4 * i) 0 v) := by
  match i, hi with
  | 0, _ => rfl
  | 1, _ => rfl
  | 2, _ => rfl
  | 3, _ => rfl
  | i + 4, h => exact absurd h (by omega)
theorem pxl_1 (q : Nat → ClassId) (ad : Nat → Nat) (z : MX) {i : Nat} (hi : i < 4) (v : Int32) : (WX q ad z).set (4 * i) (ad (4 * i), .inr (0, (fxl ad z i).set 1 (.int v))) = WX q ad (mw z (4 * i) 1 v) := by
  match i, hi with
  | 0, _ => rfl
  | 1, _ => rfl
  | 2, _ => rfl
  | 3, _ => rfl
  | i + 4, h => exact absurd h (by omega)
theorem pxl_2 (q : Nat → ClassId) (ad : Nat → Nat) (z : MX) {i : Nat} (hi : i < 4) (v : Int32) : (WX q ad z).set (4 * i) (ad (4 * i), .inr (0, (fxl ad z i).set 2 (.int v))) = WX q ad (mw z (4 * i) 2 v) := by
  match i, hi with
  | 0, _ => rfl
  | 1, _ => rfl
  | 2, _ => rfl
  | 3, _ => rfl
  | i + 4, h => exact absurd h (by omega)
theorem pxl_3 (q : Nat → ClassId) (ad : Nat → Nat) (z : MX) {i : Nat} (hi : i < 4) (v : Int32) : (WX q ad z).set (4 * i) (ad (4 * i), .inr (0, (fxl ad z i).set 3 (.int v))) = WX q ad (mw z (4 * i) 3 v) := by
  match i, hi with
  | 0, _ => rfl
  | 1, _ => rfl
  | 2, _ => rfl
  | 3, _ => rfl
  | i + 4, h => exact absurd h (by omega)
theorem wxs (q : Nat → ClassId) (ad : Nat → Nat) (z : MX) {j : Nat} (hj : j < 4) : (WX q ad z)[16 + 2 * j]? = some (ad (16 + 2 * j), .inr (3, fxs ad z j)) := by
  match j, hj with
  | 0, _ => rfl
  | 1, _ => rfl
  | 2, _ => rfl
  | 3, _ => rfl
  | j + 4, h => exact absurd h (by omega)
theorem wxs1 (q : Nat → ClassId) (ad : Nat → Nat) (z : MX) {j : Nat} (hj : j < 4) : (WX q ad z)[17 + 2 * j]? = some (ad (17 + 2 * j), .inl (q 0, 40, .inl (z.1 (17 + 2 * j)))) := by
  match j, hj with
  | 0, _ => rfl
  | 1, _ => rfl
  | 2, _ => rfl
  | 3, _ => rfl
  | j + 4, h => exact absurd h (by omega)
theorem axs1 (q : Nat → ClassId) (ad : Nat → Nat) (z : MX) {j : Nat} (hj : j < 4) (f : Nat → Int32) : (WX q ad z).set (17 + 2 * j) (ad (17 + 2 * j), .inl (q 0, 40, .inl f)) = WX q ad (mf z (17 + 2 * j) f) := by
  match j, hj with
  | 0, _ => rfl
  | 1, _ => rfl
  | 2, _ => rfl
  | 3, _ => rfl
  | j + 4, h => exact absurd h (by omega)
theorem pxs_1 (q : Nat → ClassId) (ad : Nat → Nat) (z : MX) {j : Nat} (hj : j < 4) (v : Int32) : (WX q ad z).set (16 + 2 * j) (ad (16 + 2 * j), .inr (3, (fxs ad z j).set 1 (.int v))) = WX q ad (mw z (16 + 2 * j) 1 v) := by
  match j, hj with
  | 0, _ => rfl
  | 1, _ => rfl
  | 2, _ => rfl
  | 3, _ => rfl
  | j + 4, h => exact absurd h (by omega)
theorem pxs_2 (q : Nat → ClassId) (ad : Nat → Nat) (z : MX) {j : Nat} (hj : j < 4) (v : Int32) : (WX q ad z).set (16 + 2 * j) (ad (16 + 2 * j), .inr (3, (fxs ad z j).set 2 (.int v))) = WX q ad (mw z (16 + 2 * j) 2 v) := by
  match j, hj with
  | 0, _ => rfl
  | 1, _ => rfl
  | 2, _ => rfl
  | 3, _ => rfl
  | j + 4, h => exact absurd h (by omega)
theorem wx_24 (q : Nat → ClassId) (ad : Nat → Nat) (z : MX) : (WX q ad z)[24]? = some (ad 24, .inr (5, fx_24 ad z)) := rfl
theorem px_24_1 (q : Nat → ClassId) (ad : Nat → Nat) (z : MX) (v : Int32) : (WX q ad z).set 24 (ad 24, .inr (5, (fx_24 ad z).set 1 (.int v))) = WX q ad (mw z 24 1 v) := rfl
theorem px_24_2 (q : Nat → ClassId) (ad : Nat → Nat) (z : MX) (v : Int32) : (WX q ad z).set 24 (ad 24, .inr (5, (fx_24 ad z).set 2 (.int v))) = WX q ad (mw z 24 2 v) := rfl
theorem px_24_3 (q : Nat → ClassId) (ad : Nat → Nat) (z : MX) (v : Int32) : (WX q ad z).set 24 (ad 24, .inr (5, (fx_24 ad z).set 3 (.int v))) = WX q ad (mw z 24 3 v) := rfl
theorem px_24_4 (q : Nat → ClassId) (ad : Nat → Nat) (z : MX) (v : Int32) : (WX q ad z).set 24 (ad 24, .inr (5, (fx_24 ad z).set 4 (.int v))) = WX q ad (mw z 24 4 v) := rfl
theorem px_24_5 (q : Nat → ClassId) (ad : Nat → Nat) (z : MX) (v : Int32) : (WX q ad z).set 24 (ad 24, .inr (5, (fx_24 ad z).set 5 (.int v))) = WX q ad (mw z 24 5 v) := rfl
theorem px_24_6 (q : Nat → ClassId) (ad : Nat → Nat) (z : MX) (v : Int32) : (WX q ad z).set 24 (ad 24, .inr (5, (fx_24 ad z).set 6 (.int v))) = WX q ad (mw z 24 6 v) := rfl
theorem px_24_7 (q : Nat → ClassId) (ad : Nat → Nat) (z : MX) (v : Int32) : (WX q ad z).set 24 (ad 24, .inr (5, (fx_24 ad z).set 7 (.int v))) = WX q ad (mw z 24 7 v) := rfl
theorem px_24_8 (q : Nat → ClassId) (ad : Nat → Nat) (z : MX) (v : Int32) : (WX q ad z).set 24 (ad 24, .inr (5, (fx_24 ad z).set 8 (.int v))) = WX q ad (mw z 24 8 v) := rfl
theorem wx_25 (q : Nat → ClassId) (ad : Nat → Nat) (z : MX) : (WX q ad z)[25]? = some (ad 25, .inl (q 0, 160, .inl (z.1 25))) := rfl
theorem ax_25 (q : Nat → ClassId) (ad : Nat → Nat) (z : MX) (f : Nat → Int32) : (WX q ad z).set 25 (ad 25, .inl (q 0, 160, .inl f)) = WX q ad (mf z 25 f) := rfl
theorem wx_26 (q : Nat → ClassId) (ad : Nat → Nat) (z : MX) : (WX q ad z)[26]? = some (ad 26, .inr (2, fx_26 ad z)) := rfl
theorem px_26_4 (q : Nat → ClassId) (ad : Nat → Nat) (z : MX) (v : Int32) : (WX q ad z).set 26 (ad 26, .inr (2, (fx_26 ad z).set 4 (.int v))) = WX q ad (mw z 26 4 v) := rfl
theorem px_26_5 (q : Nat → ClassId) (ad : Nat → Nat) (z : MX) (v : Int32) : (WX q ad z).set 26 (ad 26, .inr (2, (fx_26 ad z).set 5 (.int v))) = WX q ad (mw z 26 5 v) := rfl
theorem px_26_6 (q : Nat → ClassId) (ad : Nat → Nat) (z : MX) (v : Int32) : (WX q ad z).set 26 (ad 26, .inr (2, (fx_26 ad z).set 6 (.int v))) = WX q ad (mw z 26 6 v) := rfl
theorem px_26_7 (q : Nat → ClassId) (ad : Nat → Nat) (z : MX) (v : Int32) : (WX q ad z).set 26 (ad 26, .inr (2, (fx_26 ad z).set 7 (.int v))) = WX q ad (mw z 26 7 v) := rfl
theorem px_26_8 (q : Nat → ClassId) (ad : Nat → Nat) (z : MX) (v : Int32) : (WX q ad z).set 26 (ad 26, .inr (2, (fx_26 ad z).set 8 (.int v))) = WX q ad (mw z 26 8 v) := rfl
theorem px_26_9 (q : Nat → ClassId) (ad : Nat → Nat) (z : MX) (v : Int32) : (WX q ad z).set 26 (ad 26, .inr (2, (fx_26 ad z).set 9 (.int v))) = WX q ad (mw z 26 9 v) := rfl
theorem px_26_10 (q : Nat → ClassId) (ad : Nat → Nat) (z : MX) (v : Int32) : (WX q ad z).set 26 (ad 26, .inr (2, (fx_26 ad z).set 10 (.int v))) = WX q ad (mw z 26 10 v) := rfl
theorem px_26_11 (q : Nat → ClassId) (ad : Nat → Nat) (z : MX) (v : Int32) : (WX q ad z).set 26 (ad 26, .inr (2, (fx_26 ad z).set 11 (.int v))) = WX q ad (mw z 26 11 v) := rfl
theorem px_26_12 (q : Nat → ClassId) (ad : Nat → Nat) (z : MX) (v : Int32) : (WX q ad z).set 26 (ad 26, .inr (2, (fx_26 ad z).set 12 (.int v))) = WX q ad (mw z 26 12 v) := rfl
theorem wx_27 (q : Nat → ClassId) (ad : Nat → Nat) (z : MX) : (WX q ad z)[27]? = some (ad 27, .inl (q 0, 4, .inl (z.1 27))) := rfl
theorem ax_27 (q : Nat → ClassId) (ad : Nat → Nat) (z : MX) (f : Nat → Int32) : (WX q ad z).set 27 (ad 27, .inl (q 0, 4, .inl f)) = WX q ad (mf z 27 f) := rfl
theorem wx_28 (q : Nat → ClassId) (ad : Nat → Nat) (z : MX) : (WX q ad z)[28]? = some (ad 28, .inl (q 0, 4, .inl (z.1 28))) := rfl
theorem ax_28 (q : Nat → ClassId) (ad : Nat → Nat) (z : MX) (f : Nat → Int32) : (WX q ad z).set 28 (ad 28, .inl (q 0, 4, .inl f)) = WX q ad (mf z 28 f) := rfl
theorem wx_29 (q : Nat → ClassId) (ad : Nat → Nat) (z : MX) : (WX q ad z)[29]? = some (ad 29, .inl (q 0, 4, .inl (z.1 29))) := rfl
theorem ax_29 (q : Nat → ClassId) (ad : Nat → Nat) (z : MX) (f : Nat → Int32) : (WX q ad z).set 29 (ad 29, .inl (q 0, 4, .inl f)) = WX q ad (mf z 29 f) := rfl
theorem wx_30 (q : Nat → ClassId) (ad : Nat → Nat) (z : MX) : (WX q ad z)[30]? = some (ad 30, .inl (q 0, 480, .inl (z.1 30))) := rfl
theorem ax_30 (q : Nat → ClassId) (ad : Nat → Nat) (z : MX) (f : Nat → Int32) : (WX q ad z).set 30 (ad 30, .inl (q 0, 480, .inl f)) = WX q ad (mf z 30 f) := rfl
theorem wx_31 (q : Nat → ClassId) (ad : Nat → Nat) (z : MX) : (WX q ad z)[31]? = some (ad 31, .inr (6, fx_31 ad z)) := rfl
theorem px_31_2 (q : Nat → ClassId) (ad : Nat → Nat) (z : MX) (v : Int32) : (WX q ad z).set 31 (ad 31, .inr (6, (fx_31 ad z).set 2 (.int v))) = WX q ad (mw z 31 2 v) := rfl
theorem wx_32 (q : Nat → ClassId) (ad : Nat → Nat) (z : MX) : (WX q ad z)[32]? = some (ad 32, .inr (1, fx_32 ad z)) := rfl
theorem px_32_2 (q : Nat → ClassId) (ad : Nat → Nat) (z : MX) (v : Int64) : (WX q ad z).set 32 (ad 32, .inr (1, (fx_32 ad z).set 2 (.long v))) = WX q ad (ml z 0 v) := rfl
theorem px_32_3 (q : Nat → ClassId) (ad : Nat → Nat) (z : MX) (v : Int64) : (WX q ad z).set 32 (ad 32, .inr (1, (fx_32 ad z).set 3 (.long v))) = WX q ad (ml z 1 v) := rfl
theorem px_32_4 (q : Nat → ClassId) (ad : Nat → Nat) (z : MX) (v : Int64) : (WX q ad z).set 32 (ad 32, .inr (1, (fx_32 ad z).set 4 (.long v))) = WX q ad (ml z 2 v) := rfl
theorem wx_33 (q : Nat → ClassId) (ad : Nat → Nat) (z : MX) : (WX q ad z)[33]? = some (ad 33, .inr (4, fx_33 ad z)) := rfl
theorem px_33_6 (q : Nat → ClassId) (ad : Nat → Nat) (z : MX) (v : Int32) : (WX q ad z).set 33 (ad 33, .inr (4, (fx_33 ad z).set 6 (.int v))) = WX q ad (mw z 33 6 v) := rfl
theorem px_33_7 (q : Nat → ClassId) (ad : Nat → Nat) (z : MX) (v : Int32) : (WX q ad z).set 33 (ad 33, .inr (4, (fx_33 ad z).set 7 (.int v))) = WX q ad (mw z 33 7 v) := rfl
theorem wx_34 (q : Nat → ClassId) (ad : Nat → Nat) (z : MX) : (WX q ad z)[34]? = some (ad 34, .inl (q 0, 6, .inl (z.1 34))) := rfl
theorem ax_34 (q : Nat → ClassId) (ad : Nat → Nat) (z : MX) (f : Nat → Int32) : (WX q ad z).set 34 (ad 34, .inl (q 0, 6, .inl f)) = WX q ad (mf z 34 f) := rfl
theorem wx_35 (q : Nat → ClassId) (ad : Nat → Nat) (z : MX) : (WX q ad z)[35]? = some (ad 35, .inl (q 0, 6, .inl (z.1 35))) := rfl
theorem ax_35 (q : Nat → ClassId) (ad : Nat → Nat) (z : MX) (f : Nat → Int32) : (WX q ad z).set 35 (ad 35, .inl (q 0, 6, .inl f)) = WX q ad (mf z 35 f) := rfl
theorem wx_36 (q : Nat → ClassId) (ad : Nat → Nat) (z : MX) : (WX q ad z)[36]? = some (ad 36, .inl (q 0, 6, .inl (z.1 36))) := rfl
theorem ax_36 (q : Nat → ClassId) (ad : Nat → Nat) (z : MX) (f : Nat → Int32) : (WX q ad z).set 36 (ad 36, .inl (q 0, 6, .inl f)) = WX q ad (mf z 36 f) := rfl
theorem wx_37 (q : Nat → ClassId) (ad : Nat → Nat) (z : MX) : (WX q ad z)[37]? = some (ad 37, .inl (q 0, 480, .inl (z.1 37))) := rfl
theorem ax_37 (q : Nat → ClassId) (ad : Nat → Nat) (z : MX) (f : Nat → Int32) : (WX q ad z).set 37 (ad 37, .inl (q 0, 480, .inl f)) = WX q ad (mf z 37 f) := rfl
theorem wx_38 (q : Nat → ClassId) (ad : Nat → Nat) (z : MX) : (WX q ad z)[38]? = some (ad 38, .inr (7, fx_38 ad z)) := rfl
theorem px_38_10 (q : Nat → ClassId) (ad : Nat → Nat) (z : MX) (v : Int32) : (WX q ad z).set 38 (ad 38, .inr (7, (fx_38 ad z).set 10 (.int v))) = WX q ad (mw z 38 10 v) := rfl
theorem px_38_11 (q : Nat → ClassId) (ad : Nat → Nat) (z : MX) (v : Int32) : (WX q ad z).set 38 (ad 38, .inr (7, (fx_38 ad z).set 11 (.int v))) = WX q ad (mw z 38 11 v) := rfl
theorem wx_39 (q : Nat → ClassId) (ad : Nat → Nat) (z : MX) : (WX q ad z)[39]? = some (ad 39, .inl (q 2, 2, .inr (.inr (.inr (.inr (fun n => some (ad (4 * (2 + n))))))))) := rfl
theorem wx_40 (q : Nat → ClassId) (ad : Nat → Nat) (z : MX) : (WX q ad z)[40]? = some (ad 40, .inl (q 1, 2, .inl (z.1 40))) := rfl
theorem ax_40 (q : Nat → ClassId) (ad : Nat → Nat) (z : MX) (f : Nat → Int32) : (WX q ad z).set 40 (ad 40, .inl (q 1, 2, .inl f)) = WX q ad (mf z 40 f) := rfl
theorem wx_41 (q : Nat → ClassId) (ad : Nat → Nat) (z : MX) : (WX q ad z)[41]? = some (ad 41, .inl (q 3, 4, .inr (.inr (.inr (.inr (fun n => some (ad (16 + 2 * n)))))))) := rfl
def fm (ad : Nat → Nat) (z : MX) : List Value := [.ref (ad 1), .int (z.1 0 1), .int (z.1 0 2), .ref (ad 2), .int (z.1 0 4), .ref (ad 3), .ref (ad 4), .ref (ad 5), .int (z.1 0 8), .int (z.1 0 9), .int (z.1 0 10), .int (z.1 0 11), .int (z.1 0 12), .int (z.1 0 13), .ref (ad 6), .int (z.1 0 15), .int (z.1 0 16), .int (z.1 0 17), .int (z.1 0 18), .int (z.1 0 19), .int (z.1 0 20), .int (z.1 0 21), .int (z.1 0 22), .ref (ad 7), .ref (ad 8), .ref (ad 9), .ref (ad 10), .ref (ad 11), .ref (ad 12), .ref (ad 13), .int (z.1 0 30), .int (z.1 0 31), .int (z.1 0 32), .int (z.1 0 33), .int (z.1 0 34), .int (z.1 0 35), .ref (ad 14), .int (z.1 0 37), .ref (ad 15), .int (z.1 0 39), .ref (ad 16), .ref (ad 17), .ref (ad 18), .ref (ad 19), .int (z.1 0 44)]
/-- the reference: its object, and its rows -/
def WM (q : Nat → ClassId) (ad : Nat → Nat) (z : MX) : va_W := [(ad 0, .inr (8, fm ad z)),
  (ad 1, .inl (q 0, 125, .inl (z.1 1))),
  (ad 2, .inl (q 0, 8, .inl (z.1 2))),
  (ad 3, .inl (q 0, 20, .inl (z.1 3))),
  (ad 4, .inl (q 0, 25, .inl (z.1 4))),
  (ad 5, .inl (q 0, 8, .inl (z.1 5))),
  (ad 6, .inl (q 0, 160, .inl (z.1 6))),
  (ad 7, .inl (q 0, 14, .inl (z.1 7))),
  (ad 8, .inl (q 0, 66, .inl (z.1 8))),
  (ad 9, .inl (q 0, 4, .inl (z.1 9))),
  (ad 10, .inl (q 0, 4, .inl (z.1 10))),
  (ad 11, .inl (q 1, 4, .inl (z.1 11))),
  (ad 12, .inl (q 0, 4, .inl (z.1 12))),
  (ad 13, .inl (q 0, 480, .inl (z.1 13))),
  (ad 14, .inl (q 0, 18, .inl (z.1 14))),
  (ad 15, .inl (q 0, 480, .inl (z.1 15))),
  (ad 16, .inl (q 1, 2, .inl (z.1 16))),
  (ad 17, .inl (q 0, 4, .inl (z.1 17))),
  (ad 18, .inl (q 0, 4, .inl (z.1 18))),
  (ad 19, .inl (q 0, 160, .inl (z.1 19)))]
theorem wm_0 (q : Nat → ClassId) (ad : Nat → Nat) (z : MX) : (WM q ad z)[0]? = some (ad 0, .inr (8, fm ad z)) := rfl
theorem pm_0_1 (q : Nat → ClassId) (ad : Nat → Nat) (z : MX) (v : Int32) : (WM q ad z).set 0 (ad 0, .inr (8, (fm ad z).set 1 (.int v))) = WM q ad (mw z 0 1 v) := rfl
theorem pm_0_2 (q : Nat → ClassId) (ad : Nat → Nat) (z : MX) (v : Int32) : (WM q ad z).set 0 (ad 0, .inr (8, (fm ad z).set 2 (.int v))) = WM q ad (mw z 0 2 v) := rfl
theorem pm_0_4 (q : Nat → ClassId) (ad : Nat → Nat) (z : MX) (v : Int32) : (WM q ad z).set 0 (ad 0, .inr (8, (fm ad z).set 4 (.int v))) = WM q ad (mw z 0 4 v) := rfl
theorem pm_0_8 (q : Nat → ClassId) (ad : Nat → Nat) (z : MX) (v : Int32) : (WM q ad z).set 0 (ad 0, .inr (8, (fm ad z).set 8 (.int v))) = WM q ad (mw z 0 8 v) := rfl
theorem pm_0_9 (q : Nat → ClassId) (ad : Nat → Nat) (z : MX) (v : Int32) : (WM q ad z).set 0 (ad 0, .inr (8, (fm ad z).set 9 (.int v))) = WM q ad (mw z 0 9 v) := rfl
theorem pm_0_10 (q : Nat → ClassId) (ad : Nat → Nat) (z : MX) (v : Int32) : (WM q ad z).set 0 (ad 0, .inr (8, (fm ad z).set 10 (.int v))) = WM q ad (mw z 0 10 v) := rfl
theorem pm_0_11 (q : Nat → ClassId) (ad : Nat → Nat) (z : MX) (v : Int32) : (WM q ad z).set 0 (ad 0, .inr (8, (fm ad z).set 11 (.int v))) = WM q ad (mw z 0 11 v) := rfl
theorem pm_0_12 (q : Nat → ClassId) (ad : Nat → Nat) (z : MX) (v : Int32) : (WM q ad z).set 0 (ad 0, .inr (8, (fm ad z).set 12 (.int v))) = WM q ad (mw z 0 12 v) := rfl
theorem pm_0_13 (q : Nat → ClassId) (ad : Nat → Nat) (z : MX) (v : Int32) : (WM q ad z).set 0 (ad 0, .inr (8, (fm ad z).set 13 (.int v))) = WM q ad (mw z 0 13 v) := rfl
theorem pm_0_15 (q : Nat → ClassId) (ad : Nat → Nat) (z : MX) (v : Int32) : (WM q ad z).set 0 (ad 0, .inr (8, (fm ad z).set 15 (.int v))) = WM q ad (mw z 0 15 v) := rfl
theorem pm_0_16 (q : Nat → ClassId) (ad : Nat → Nat) (z : MX) (v : Int32) : (WM q ad z).set 0 (ad 0, .inr (8, (fm ad z).set 16 (.int v))) = WM q ad (mw z 0 16 v) := rfl
theorem pm_0_17 (q : Nat → ClassId) (ad : Nat → Nat) (z : MX) (v : Int32) : (WM q ad z).set 0 (ad 0, .inr (8, (fm ad z).set 17 (.int v))) = WM q ad (mw z 0 17 v) := rfl
theorem pm_0_18 (q : Nat → ClassId) (ad : Nat → Nat) (z : MX) (v : Int32) : (WM q ad z).set 0 (ad 0, .inr (8, (fm ad z).set 18 (.int v))) = WM q ad (mw z 0 18 v) := rfl
theorem pm_0_19 (q : Nat → ClassId) (ad : Nat → Nat) (z : MX) (v : Int32) : (WM q ad z).set 0 (ad 0, .inr (8, (fm ad z).set 19 (.int v))) = WM q ad (mw z 0 19 v) := rfl
theorem pm_0_20 (q : Nat → ClassId) (ad : Nat → Nat) (z : MX) (v : Int32) : (WM q ad z).set 0 (ad 0, .inr (8, (fm ad z).set 20 (.int v))) = WM q ad (mw z 0 20 v) := rfl
theorem pm_0_21 (q : Nat → ClassId) (ad : Nat → Nat) (z : MX) (v : Int32) : (WM q ad z).set 0 (ad 0, .inr (8, (fm ad z).set 21 (.int v))) = WM q ad (mw z 0 21 v) := rfl
theorem pm_0_22 (q : Nat → ClassId) (ad : Nat → Nat) (z : MX) (v : Int32) : (WM q ad z).set 0 (ad 0, .inr (8, (fm ad z).set 22 (.int v))) = WM q ad (mw z 0 22 v) := rfl
theorem pm_0_30 (q : Nat → ClassId) (ad : Nat → Nat) (z : MX) (v : Int32) : (WM q ad z).set 0 (ad 0, .inr (8, (fm ad z).set 30 (.int v))) = WM q ad (mw z 0 30 v) := rfl
theorem pm_0_31 (q : Nat → ClassId) (ad : Nat → Nat) (z : MX) (v : Int32) : (WM q ad z).set 0 (ad 0, .inr (8, (fm ad z).set 31 (.int v))) = WM q ad (mw z 0 31 v) := rfl
theorem pm_0_32 (q : Nat → ClassId) (ad : Nat → Nat) (z : MX) (v : Int32) : (WM q ad z).set 0 (ad 0, .inr (8, (fm ad z).set 32 (.int v))) = WM q ad (mw z 0 32 v) := rfl
theorem pm_0_33 (q : Nat → ClassId) (ad : Nat → Nat) (z : MX) (v : Int32) : (WM q ad z).set 0 (ad 0, .inr (8, (fm ad z).set 33 (.int v))) = WM q ad (mw z 0 33 v) := rfl
theorem pm_0_34 (q : Nat → ClassId) (ad : Nat → Nat) (z : MX) (v : Int32) : (WM q ad z).set 0 (ad 0, .inr (8, (fm ad z).set 34 (.int v))) = WM q ad (mw z 0 34 v) := rfl
theorem pm_0_35 (q : Nat → ClassId) (ad : Nat → Nat) (z : MX) (v : Int32) : (WM q ad z).set 0 (ad 0, .inr (8, (fm ad z).set 35 (.int v))) = WM q ad (mw z 0 35 v) := rfl
theorem pm_0_37 (q : Nat → ClassId) (ad : Nat → Nat) (z : MX) (v : Int32) : (WM q ad z).set 0 (ad 0, .inr (8, (fm ad z).set 37 (.int v))) = WM q ad (mw z 0 37 v) := rfl
theorem pm_0_39 (q : Nat → ClassId) (ad : Nat → Nat) (z : MX) (v : Int32) : (WM q ad z).set 0 (ad 0, .inr (8, (fm ad z).set 39 (.int v))) = WM q ad (mw z 0 39 v) := rfl
theorem pm_0_44 (q : Nat → ClassId) (ad : Nat → Nat) (z : MX) (v : Int32) : (WM q ad z).set 0 (ad 0, .inr (8, (fm ad z).set 44 (.int v))) = WM q ad (mw z 0 44 v) := rfl
theorem wm_1 (q : Nat → ClassId) (ad : Nat → Nat) (z : MX) : (WM q ad z)[1]? = some (ad 1, .inl (q 0, 125, .inl (z.1 1))) := rfl
theorem am_1 (q : Nat → ClassId) (ad : Nat → Nat) (z : MX) (f : Nat → Int32) : (WM q ad z).set 1 (ad 1, .inl (q 0, 125, .inl f)) = WM q ad (mf z 1 f) := rfl
theorem wm_2 (q : Nat → ClassId) (ad : Nat → Nat) (z : MX) : (WM q ad z)[2]? = some (ad 2, .inl (q 0, 8, .inl (z.1 2))) := rfl
theorem am_2 (q : Nat → ClassId) (ad : Nat → Nat) (z : MX) (f : Nat → Int32) : (WM q ad z).set 2 (ad 2, .inl (q 0, 8, .inl f)) = WM q ad (mf z 2 f) := rfl
theorem wm_3 (q : Nat → ClassId) (ad : Nat → Nat) (z : MX) : (WM q ad z)[3]? = some (ad 3, .inl (q 0, 20, .inl (z.1 3))) := rfl
theorem am_3 (q : Nat → ClassId) (ad : Nat → Nat) (z : MX) (f : Nat → Int32) : (WM q ad z).set 3 (ad 3, .inl (q 0, 20, .inl f)) = WM q ad (mf z 3 f) := rfl
theorem wm_4 (q : Nat → ClassId) (ad : Nat → Nat) (z : MX) : (WM q ad z)[4]? = some (ad 4, .inl (q 0, 25, .inl (z.1 4))) := rfl
theorem am_4 (q : Nat → ClassId) (ad : Nat → Nat) (z : MX) (f : Nat → Int32) : (WM q ad z).set 4 (ad 4, .inl (q 0, 25, .inl f)) = WM q ad (mf z 4 f) := rfl
theorem wm_5 (q : Nat → ClassId) (ad : Nat → Nat) (z : MX) : (WM q ad z)[5]? = some (ad 5, .inl (q 0, 8, .inl (z.1 5))) := rfl
theorem am_5 (q : Nat → ClassId) (ad : Nat → Nat) (z : MX) (f : Nat → Int32) : (WM q ad z).set 5 (ad 5, .inl (q 0, 8, .inl f)) = WM q ad (mf z 5 f) := rfl
theorem wm_6 (q : Nat → ClassId) (ad : Nat → Nat) (z : MX) : (WM q ad z)[6]? = some (ad 6, .inl (q 0, 160, .inl (z.1 6))) := rfl
theorem am_6 (q : Nat → ClassId) (ad : Nat → Nat) (z : MX) (f : Nat → Int32) : (WM q ad z).set 6 (ad 6, .inl (q 0, 160, .inl f)) = WM q ad (mf z 6 f) := rfl
theorem wm_7 (q : Nat → ClassId) (ad : Nat → Nat) (z : MX) : (WM q ad z)[7]? = some (ad 7, .inl (q 0, 14, .inl (z.1 7))) := rfl
theorem am_7 (q : Nat → ClassId) (ad : Nat → Nat) (z : MX) (f : Nat → Int32) : (WM q ad z).set 7 (ad 7, .inl (q 0, 14, .inl f)) = WM q ad (mf z 7 f) := rfl
theorem wm_8 (q : Nat → ClassId) (ad : Nat → Nat) (z : MX) : (WM q ad z)[8]? = some (ad 8, .inl (q 0, 66, .inl (z.1 8))) := rfl
theorem am_8 (q : Nat → ClassId) (ad : Nat → Nat) (z : MX) (f : Nat → Int32) : (WM q ad z).set 8 (ad 8, .inl (q 0, 66, .inl f)) = WM q ad (mf z 8 f) := rfl
theorem wm_9 (q : Nat → ClassId) (ad : Nat → Nat) (z : MX) : (WM q ad z)[9]? = some (ad 9, .inl (q 0, 4, .inl (z.1 9))) := rfl
theorem am_9 (q : Nat → ClassId) (ad : Nat → Nat) (z : MX) (f : Nat → Int32) : (WM q ad z).set 9 (ad 9, .inl (q 0, 4, .inl f)) = WM q ad (mf z 9 f) := rfl
theorem wm_10 (q : Nat → ClassId) (ad : Nat → Nat) (z : MX) : (WM q ad z)[10]? = some (ad 10, .inl (q 0, 4, .inl (z.1 10))) := rfl
theorem am_10 (q : Nat → ClassId) (ad : Nat → Nat) (z : MX) (f : Nat → Int32) : (WM q ad z).set 10 (ad 10, .inl (q 0, 4, .inl f)) = WM q ad (mf z 10 f) := rfl
theorem wm_11 (q : Nat → ClassId) (ad : Nat → Nat) (z : MX) : (WM q ad z)[11]? = some (ad 11, .inl (q 1, 4, .inl (z.1 11))) := rfl
theorem am_11 (q : Nat → ClassId) (ad : Nat → Nat) (z : MX) (f : Nat → Int32) : (WM q ad z).set 11 (ad 11, .inl (q 1, 4, .inl f)) = WM q ad (mf z 11 f) := rfl
theorem wm_12 (q : Nat → ClassId) (ad : Nat → Nat) (z : MX) : (WM q ad z)[12]? = some (ad 12, .inl (q 0, 4, .inl (z.1 12))) := rfl
theorem am_12 (q : Nat → ClassId) (ad : Nat → Nat) (z : MX) (f : Nat → Int32) : (WM q ad z).set 12 (ad 12, .inl (q 0, 4, .inl f)) = WM q ad (mf z 12 f) := rfl
theorem wm_13 (q : Nat → ClassId) (ad : Nat → Nat) (z : MX) : (WM q ad z)[13]? = some (ad 13, .inl (q 0, 480, .inl (z.1 13))) := rfl
theorem am_13 (q : Nat → ClassId) (ad : Nat → Nat) (z : MX) (f : Nat → Int32) : (WM q ad z).set 13 (ad 13, .inl (q 0, 480, .inl f)) = WM q ad (mf z 13 f) := rfl
theorem wm_14 (q : Nat → ClassId) (ad : Nat → Nat) (z : MX) : (WM q ad z)[14]? = some (ad 14, .inl (q 0, 18, .inl (z.1 14))) := rfl
theorem am_14 (q : Nat → ClassId) (ad : Nat → Nat) (z : MX) (f : Nat → Int32) : (WM q ad z).set 14 (ad 14, .inl (q 0, 18, .inl f)) = WM q ad (mf z 14 f) := rfl
theorem wm_15 (q : Nat → ClassId) (ad : Nat → Nat) (z : MX) : (WM q ad z)[15]? = some (ad 15, .inl (q 0, 480, .inl (z.1 15))) := rfl
theorem am_15 (q : Nat → ClassId) (ad : Nat → Nat) (z : MX) (f : Nat → Int32) : (WM q ad z).set 15 (ad 15, .inl (q 0, 480, .inl f)) = WM q ad (mf z 15 f) := rfl
theorem wm_16 (q : Nat → ClassId) (ad : Nat → Nat) (z : MX) : (WM q ad z)[16]? = some (ad 16, .inl (q 1, 2, .inl (z.1 16))) := rfl
theorem am_16 (q : Nat → ClassId) (ad : Nat → Nat) (z : MX) (f : Nat → Int32) : (WM q ad z).set 16 (ad 16, .inl (q 1, 2, .inl f)) = WM q ad (mf z 16 f) := rfl
theorem wm_17 (q : Nat → ClassId) (ad : Nat → Nat) (z : MX) : (WM q ad z)[17]? = some (ad 17, .inl (q 0, 4, .inl (z.1 17))) := rfl
theorem am_17 (q : Nat → ClassId) (ad : Nat → Nat) (z : MX) (f : Nat → Int32) : (WM q ad z).set 17 (ad 17, .inl (q 0, 4, .inl f)) = WM q ad (mf z 17 f) := rfl
theorem wm_18 (q : Nat → ClassId) (ad : Nat → Nat) (z : MX) : (WM q ad z)[18]? = some (ad 18, .inl (q 0, 4, .inl (z.1 18))) := rfl
theorem am_18 (q : Nat → ClassId) (ad : Nat → Nat) (z : MX) (f : Nat → Int32) : (WM q ad z).set 18 (ad 18, .inl (q 0, 4, .inl f)) = WM q ad (mf z 18 f) := rfl
theorem wm_19 (q : Nat → ClassId) (ad : Nat → Nat) (z : MX) : (WM q ad z)[19]? = some (ad 19, .inl (q 0, 160, .inl (z.1 19))) := rfl
theorem am_19 (q : Nat → ClassId) (ad : Nat → Nat) (z : MX) (f : Nat → Int32) : (WM q ad z).set 19 (ad 19, .inl (q 0, 160, .inl f)) = WM q ad (mf z 19 f) := rfl
