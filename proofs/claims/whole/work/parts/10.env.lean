/-! what stays: the classes, the static rows, the links between nest mates, the texts -/
def xTy (q : Nat → ClassId) : List (ClassId × FieldType) := [(q 0, .int), (q 1, .boolean), (q 2, .object "OmenLine$Line"), (q 3, .object "OmenLine$Sheet")]
def xWait (j : Nat) : Int32 := ([0, 1, 0, 3, 5, 0, 0, 0, 1, 2, 0, 2, 1, 4, 6, 0, 0, 2, 3, 5] : List Int32).getD j 0
def xFact (j : Nat) : Int32 := ([4, 2, 10, 10] : List Int32).getD j 0
def xIdx : List Nat := [153, 154, 156, 158, 160, 162, 164, 166, 168, 170, 172, 174, 176]
def xTx : List String := ["blocks", "magpie", "sweep", "cat", "hearse", "guard", "lock", "plain", "sceptic", "devout", "heathen", "up", "down"]
def xLen : List Nat := [6, 6, 5, 3, 6, 5, 4, 5, 7, 6, 7, 2, 4]
def xByt : List (List Int32) := [[98, 108, 111, 99, 107, 115], [109, 97, 103, 112, 105, 101], [115, 119, 101, 101, 112], [99, 97, 116], [104, 101, 97, 114, 115, 101], [103, 117, 97, 114, 100], [108, 111, 99, 107], [112, 108, 97, 105, 110], [115, 99, 101, 112, 116, 105, 99], [100, 101, 118, 111, 117, 116], [104, 101, 97, 116, 104, 101, 110], [117, 112], [100, 111, 119, 110]]
def xE (D : va_G) (q : Nat → ClassId) (ad : Nat → Nat) (A : Nat → Prop) (U : State) (H : Heap) : Prop :=
  va_K D vwCl (xTy q) U ∧
  (∃ t, va_Z RX7 "WAIT_MINUTES" "[I" (.ref t) A U H ∧ va_T .int t 20 (fun j => .int (xWait j)) A U H) ∧
  (∃ t, va_Z RX7 "FACT_VALUES" "[I" (.ref t) A U H ∧ va_T .int t 4 (fun j => .int (xFact j)) A U H) ∧
  va_Nw (.methodLinkNest RX0 50 yX7_isOmen RX7) U ∧ va_Nw (.methodLinkNest RX2 83 yX7_minutesFor RX7) U ∧ va_Nw (.methodLinkNest RX6 72 yX7_startIn RX7) U ∧
  va_Nw (.fieldLinkNest RX5 111 RX7 "FACT_VALUES" "[I" RX7) U ∧
  va_Z "java/lang/String" "COMPACT_STRINGS" "Z" (.int 1) A U H ∧
  vk_S 13 xLen xByt (fun i => ad (100 + i)) (fun i => ad (200 + i)) A U H ∧
  (∀ i, i < 13 → vk_R RX5 (xIdx.getD i 0) (xTx.getD i "") (ad (100 + i)) U) ∧
  va_Zq "jdk/internal/util/Preconditions" "SIOOBE_FORMATTER" "Ljava/util/function/BiFunction;" A U H
theorem xE_G (D : va_G) (q : Nat → ClassId) (ad : Nat → Nat) (A : Nat → Prop) : gE (xE D q ad A) A := by
  refine ⟨?_, ?_, ?_⟩
  · intro s U H hW h
    obtain ⟨h1, ⟨t2, h2, h2b⟩, ⟨t3, h3, h3b⟩, h4, h5, h6, h7, h8, h9, h10, h11⟩ := h
    exact ⟨h1.moved hW.alike, ⟨t2, h2.moved hW.alike, h2b.moved hW.alike⟩, ⟨t3, h3.moved hW.alike, h3b.moved hW.alike⟩, h4.warmM hW, h5.warmM hW, h6.warmM hW, h7.warmF hW, h8.moved hW.alike, h9.moved hW.alike, fun i hi => (h10 i hi).warm hW, h11.moved hW.alike⟩
  · intro U H H1 hk h
    obtain ⟨h1, ⟨t2, h2, h2b⟩, ⟨t3, h3, h3b⟩, h4, h5, h6, h7, h8, h9, h10, h11⟩ := h
    exact ⟨h1, ⟨t2, h2.kept hk, h2b.kept hk⟩, ⟨t3, h3.kept hk, h3b.kept hk⟩, h4, h5, h6, h7, h8.kept hk, h9.kept hk, h10, h11.kept hk⟩
  · intro U g mk a H h
    obtain ⟨h1, ⟨t2, h2, h2b⟩, ⟨t3, h3, h3b⟩, h4, h5, h6, h7, h8, h9, h10, h11⟩ := h
    have al : U.vm.Alike (U.calling g mk a).vm := Vm.Alike.refl U.vm
    exact ⟨h1.moved al, ⟨t2, h2.moved al, h2b.moved al⟩, ⟨t3, h3.moved al, h3b.moved al⟩, va_Nw.same rfl rfl h4, va_Nw.same rfl rfl h5, va_Nw.same rfl rfl h6, va_Nw.same rfl rfl h7, h8.moved al, h9.moved al, fun i hi => (h10 i hi).same rfl, h11.moved al⟩
def mE (D : va_G) (q : Nat → ClassId) (U : State) (_ : Heap) : Prop := va_K D vwCl (xTy q) U ∧ True
theorem mE_G (D : va_G) (q : Nat → ClassId) (A : Nat → Prop) : gE (mE D q) A := by
  refine ⟨fun s U H hW h => ⟨h.1.moved hW.alike, trivial⟩, fun U H H1 _ h => h, fun U g mk a H h => ⟨h.1.moved (Vm.Alike.refl U.vm), trivial⟩⟩
