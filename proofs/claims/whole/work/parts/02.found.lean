/-! THE ABSTRACT MACHINE: a store of numbers and references over a fixed layout of cells; the judgement VA: 'from this pc, with these locals, stack and store, the method comes to its end with Q'. -/
/-- the kinds of all cells, in the order in which they are made: a class (below 50) and its fields, or an array (50 int, 51 long, 52 byte, 53 boolean, from 54 on of objects) and its length -/
def layL : List (Nat × Nat) := [(11, 15), (50, 400), (6, 7), (0, 4), (50, 400), (50, 400), (51, 64), (50, 4), (54, 6), (55, 6), (56, 6), (57, 6), (3, 7), (0, 4), (50, 400), (50, 400), (51, 64), (50, 12), (50, 12), (50, 12), (50, 12), (5, 3), (59, 6), (8, 14), (50, 800), (50, 2800), (50, 61), (51, 8), (8, 14), (50, 800), (50, 2800), (50, 61), (51, 8), (8, 14), (50, 800), (50, 2800), (50, 61), (51, 8), (8, 14), (50, 800), (50, 2800), (50, 61), (51, 8), (8, 14), (50, 800), (50, 2800), (50, 61), (51, 8), (8, 14), (50, 800), (50, 2800), (50, 61), (51, 8), (58, 4), (8, 14), (50, 800), (50, 2800), (50, 61), (51, 8), (9, 4), (50, 400), (51, 8), (1, 4), (50, 40401), (50, 5), (4, 5), (50, 201), (50, 1200), (50, 200), (50, 200), (3, 7), (0, 4), (50, 400), (50, 400), (51, 64), (50, 12), (50, 12), (50, 12), (50, 12), (2, 5), (50, 12), (50, 12), (50, 12), (50, 12), (7, 5), (0, 4), (50, 400), (50, 400), (51, 64), (50, 12), (50, 12), (50, 12), (10, 7), (50, 21), (50, 20), (50, 21), (50, 20), (3, 7), (0, 4), (50, 400), (50, 400), (51, 64), (50, 12), (50, 12), (50, 12), (50, 12), (2, 5), (50, 12), (50, 12), (50, 12), (50, 12), (7, 5), (0, 4), (50, 400), (50, 400), (51, 64), (50, 12), (50, 12), (50, 12), (10, 7), (50, 21), (50, 20), (50, 21), (50, 20), (3, 7), (0, 4), (50, 400), (50, 400), (51, 64), (50, 12), (50, 12), (50, 12), (50, 12), (2, 5), (50, 12), (50, 12), (50, 12), (50, 12), (7, 5), (0, 4), (50, 400), (50, 400), (51, 64), (50, 12), (50, 12), (50, 12), (10, 7), (50, 21), (50, 20), (50, 21), (50, 20), (3, 7), (0, 4), (50, 400), (50, 400), (51, 64), (50, 12), (50, 12), (50, 12), (50, 12), (2, 5), (50, 12), (50, 12), (50, 12), (50, 12), (7, 5), (0, 4), (50, 400), (50, 400), (51, 64), (50, 12), (50, 12), (50, 12), (10, 7), (50, 21), (50, 20), (50, 21), (50, 20), (3, 7), (0, 4), (50, 400), (50, 400), (51, 64), (50, 12), (50, 12), (50, 12), (50, 12), (2, 5), (50, 12), (50, 12), (50, 12), (50, 12), (7, 5), (0, 4), (50, 400), (50, 400), (51, 64), (50, 12), (50, 12), (50, 12), (10, 7), (50, 21), (50, 20), (50, 21), (50, 20), (3, 7), (0, 4), (50, 400), (50, 400), (51, 64), (50, 12), (50, 12), (50, 12), (50, 12), (2, 5), (50, 12), (50, 12), (50, 12), (50, 12), (7, 5), (0, 4), (50, 400), (50, 400), (51, 64), (50, 12), (50, 12), (50, 12), (10, 7), (50, 21), (50, 20), (50, 21), (50, 20), (5, 3), (59, 6), (8, 14), (50, 800), (50, 2800), (50, 61), (51, 8), (8, 14), (50, 800), (50, 2800), (50, 61), (51, 8), (8, 14), (50, 800), (50, 2800), (50, 61), (51, 8), (8, 14), (50, 800), (50, 2800), (50, 61), (51, 8), (8, 14), (50, 800), (50, 2800), (50, 61), (51, 8), (8, 14), (50, 800), (50, 2800), (50, 61), (51, 8), (5, 3), (59, 6), (8, 14), (50, 800), (50, 2800), (50, 61), (51, 8), (8, 14), (50, 800), (50, 2800), (50, 61), (51, 8), (8, 14), (50, 800), (50, 2800), (50, 61), (51, 8), (8, 14), (50, 800), (50, 2800), (50, 61), (51, 8), (8, 14), (50, 800), (50, 2800), (50, 61), (51, 8), (8, 14), (50, 800), (50, 2800), (50, 61), (51, 8), (5, 3), (59, 6), (8, 14), (50, 800), (50, 2800), (50, 61), (51, 8), (8, 14), (50, 800), (50, 2800), (50, 61), (51, 8), (8, 14), (50, 800), (50, 2800), (50, 61), (51, 8), (8, 14), (50, 800), (50, 2800), (50, 61), (51, 8), (8, 14), (50, 800), (50, 2800), (50, 61), (51, 8), (8, 14), (50, 800), (50, 2800), (50, 61), (51, 8), (5, 3), (59, 6), (8, 14), (50, 800), (50, 2800), (50, 61), (51, 8), (8, 14), (50, 800), (50, 2800), (50, 61), (51, 8), (8, 14), (50, 800), (50, 2800), (50, 61), (51, 8), (8, 14), (50, 800), (50, 2800), (50, 61), (51, 8), (8, 14), (50, 800), (50, 2800), (50, 61), (51, 8), (8, 14), (50, 800), (50, 2800), (50, 61), (51, 8), (12, 36), (52, 400), (50, 4), (50, 7200), (50, 18), (50, 1080), (50, 18), (50, 6), (50, 126), (50, 120), (50, 6), (50, 400), (51, 64), (51, 8), (50, 25760), (53, 400), (50, 40401), (50, 21), (50, 20), (50, 200), (50, 200), (50, 88320), (50, 4), (53, 4)]
/-- field kinds: 0 int, 1 long, 2 a reference that may change, 3 + d a final one, to the cell d behind -/
def ftL : List (List Nat) := [[4, 5, 6, 0], [4, 5, 0, 0], [4, 5, 6, 7, 0], [4, 8, 9, 10, 11, 0, 0], [4, 5, 6, 7, 0], [4, 0, 0], [2, 0, 0, 0, 0, 2, 2], [4, 8, 9, 10, 0], [4, 5, 6, 7, 2, 0, 0, 0, 0, 0, 0, 0, 0, 1], [4, 5, 2, 0], [4, 5, 0, 6, 7, 0, 0], [4, 0, 5, 10, 11, 12, 13, 14, 15, 24, 56, 57, 62, 65, 68], [4, 0, 5, 6, 7, 8, 9, 10, 11, 12, 13, 0, 0, 0, 0, 0, 0, 0, 14, 0, 15, 0, 16, 17, 0, 18, 19, 20, 21, 0, 0, 22, 23, 24, 25, 26]]
abbrev TOT : Nat := 384
abbrev MOD : Nat := 360

/-- static: launch, class numbers, array classes, the first own address, are the final references in place, the script (cell, length, values), the literals' cells -/
abbrev Kp : Type := Launch × va_G × (Nat → ClassId) × Nat × Bool × (Nat × Nat × (Nat → Int32)) × ((Nat → Nat) × (Nat → Nat))
abbrev kL (κ : Kp) : Launch := κ.1
abbrev kD (κ : Kp) : va_G := κ.2.1
abbrev kA (κ : Kp) : Nat → ClassId := κ.2.2.1
abbrev kB (κ : Kp) : Nat := κ.2.2.2.1
abbrev kF (κ : Kp) : Bool := κ.2.2.2.2.1
abbrev kX (κ : Kp) : Nat × Nat × (Nat → Int32) := κ.2.2.2.2.2.1
abbrev kK (κ : Kp) : Nat → Nat := κ.2.2.2.2.2.2.1
abbrev kV (κ : Kp) : Nat → Nat := κ.2.2.2.2.2.2.2
/-- the store: ints, longs, references, by cell and place -/
abbrev AS : Type := (Nat → Nat → Int32) × (Nat → Nat → Int64) × (Nat → Nat → Option Nat)
def gi (st : AS) (q j : Nat) : Int32 := st.1 q j
def gl (st : AS) (q j : Nat) : Int64 := st.2.1 q j
def gr (st : AS) (q j : Nat) : Option Nat := st.2.2 q j
def ui (st : AS) (q j : Nat) (x : Int32) : AS := (fun a b => if a = q ∧ b = j then x else st.1 a b, st.2.1, st.2.2)
def ul (st : AS) (q j : Nat) (x : Int64) : AS := (st.1, fun a b => if a = q ∧ b = j then x else st.2.1 a b, st.2.2)
def ur (st : AS) (q j : Nat) (x : Option Nat) : AS := (st.1, st.2.1, fun a b => if a = q ∧ b = j then x else st.2.2 a b)
def ft (c j : Nat) : Nat := (ftL.getD c []).getD j 0
def lay (κ : Kp) (q : Nat) : Nat × Nat := if kB κ ≤ q then layL.getD (q - kB κ) (999, 0) else (999, 0)
def fvl (κ : Kp) (st : AS) (c q j : Nat) : Value := match ft c j with
  | 0 => .int (gi st q j)
  | 1 => .long (gl st q j)
  | 2 => va_rf (gr st q j)
  | d + 3 => if kF κ then .ref (q + d) else va_rf (gr st q j)
def cellv (κ : Kp) (st : AS) (q : Nat) : va_E :=
  if (lay κ q).1 < 50 then .inr ((lay κ q).1, (List.range (lay κ q).2).map (fvl κ st (lay κ q).1 q))
  else .inl (kA κ (lay κ q).1, (lay κ q).2, if (lay κ q).1 = 51 then .inr (.inl (gl st q)) else if (lay κ q).1 < 54 then .inl (gi st q) else .inr (.inr (.inr (.inr (gr st q)))))
def wl (κ : Kp) (d : Nat) (st : AS) : va_W := (List.range d).map (fun k => (kB κ + k, cellv κ st (kB κ + k)))
theorem wl_get {κ : Kp} {d : Nat} {st : AS} {q : Nat} (h : kB κ ≤ q) (h2 : q < kB κ + d) : (wl κ d st)[q - kB κ]? = some (q, cellv κ st q) := by
  have e : kB κ + (q - kB κ) = q := by omega
  rw [wl, List.getElem?_map, List.getElem?_range (by omega)]
  simp [e]
theorem wl_at {κ : Kp} {d : Nat} {st : AS} {k : Nat} {x : Nat × va_E} (h : (wl κ d st)[k]? = some x) : k < d ∧ x = (kB κ + k, cellv κ st (kB κ + k)) := by
  rw [wl, List.getElem?_map] at h
  by_cases hk : k < d
  · rw [List.getElem?_range hk] at h
    exact ⟨hk, (Option.some.inj h).symm⟩
  · rw [List.getElem?_eq_none (by simpa using Nat.le_of_not_lt hk)] at h
    cases h
theorem wl_D {κ : Kp} {d : Nat} {st : AS} : va_D (fun q => kB κ ≤ q) (wl κ d st) := by
  refine ⟨fun i j p q hi hj e => ?_, fun k q hk => ?_⟩
  · obtain ⟨-, rfl⟩ := wl_at hi
    obtain ⟨-, rfl⟩ := wl_at hj
    simp only at e
    omega
  · obtain ⟨-, rfl⟩ := wl_at hk
    exact Nat.le_add_right _ _
theorem wl_set {κ : Kp} {d : Nat} {st st' : AS} {q : Nat} (hq : kB κ ≤ q) (h : ∀ p, p ≠ q → cellv κ st' p = cellv κ st p) : (wl κ d st).set (q - kB κ) (q, cellv κ st' q) = wl κ d st' := by
  apply List.ext_getElem?
  intro k
  rw [List.getElem?_set]
  by_cases hk : q - kB κ = k
  · subst hk
    rw [if_pos rfl]
    by_cases hd : q - kB κ < d
    · rw [if_pos (by simpa [wl] using hd), wl_get hq (by omega)]
    · rw [if_neg (by simpa [wl] using hd), List.getElem?_eq_none (by simpa [wl] using Nat.le_of_not_lt hd)]
  · rw [if_neg hk, wl, wl, List.getElem?_map, List.getElem?_map]
    by_cases hd : k < d
    · rw [List.getElem?_range hd]
      simp only [Option.map_some]
      rw [h (kB κ + k) (by omega)]
    · rw [List.getElem?_eq_none (by simpa using Nat.le_of_not_lt hd)]
      rfl
def tyl (κ : Kp) : List (ClassId × FieldType) := [(kA κ 50, .int), (kA κ 51, .long), (kA κ 52, .byte), (kA κ 53, .boolean), (kA κ 54, .object "CrumpledSheet$Law"), (kA κ 55, .object "CrumpledSheet$Doing"), (kA κ 56, .object "CrumpledSheet$Rule"), (kA κ 57, .object "CrumpledSheet$Strip"), (kA κ 58, .object "CrumpledSheet$Pile"), (kA κ 59, .object "CrumpledSheet$Sheet")]
/-! the texts of the literals -/
def litI : List Nat := [18, 45, 68, 178, 174, 176, 91, 93, 96, 106, 108]
def litT : List String := ["long short area round tight edge way total", "breaks at soft", "if", "not", "and", "or", "press fold turn", "times", "upright level", "length round used kind way place ends now", "see miss"]
def litB : List (List Int32) := litT.map (fun t => t.toList.map (fun ch => nI ch.toNat))
def litN : List Nat := litB.map List.length
def isNest : Cond → Bool
  | .methodLinkNest _ _ _ _ => true
  | _ => false
/-- what is known at every method's start, beside the words Tg -/
def NW (U : State) : Prop := ∀ w ∈ lw_tbl.filter isNest, va_Nw w U
def EX (κ : Kp) (U : State) (H : Heap) : Prop :=
  va_X (kX κ).1 (kX κ).2.1 (kX κ).2.2 U H ∧ (kX κ).1 < kB κ ∧ vk_S 11 litN litB (kK κ) (kV κ) (fun q => kB κ ≤ q) U H ∧ (∀ i, i < 11 → vk_R "CrumpledSheet$Reader" (litI.getD i 0) (litT.getD i "") (kK κ i) U) ∧ va_Z "java/lang/String" "COMPACT_STRINGS" "Z" (.int 1) (fun q => kB κ ≤ q) U H ∧ va_Zq "jdk/internal/util/Preconditions" "SIOOBE_FORMATTER" "Ljava/util/function/BiFunction;" (fun q => kB κ ≤ q) U H
def AO6 (U : State) : Prop := va_AO "CrumpledSheet$Law" U ∧ va_AO "CrumpledSheet$Doing" U ∧ va_AO "CrumpledSheet$Rule" U ∧ va_AO "CrumpledSheet$Strip" U ∧ va_AO "CrumpledSheet$Pile" U ∧ va_AO "CrumpledSheet$Sheet" U
def KN (κ : Kp) (U : State) : Prop := va_K (kD κ) vwCl (tyl κ) U ∧ NW U ∧ EX κ U U.heap ∧ AO6 U
theorem isNest_on {w : Cond} (h : isNest w = true) : w.onTables = true := by
  cases w <;> first | rfl | cases h
theorem NW.same {u U : State} (h : u.vm = U.vm) (z : NW u) : NW U := fun w hw => va_Nw.same (isNest_on (List.mem_filter.mp hw).2) h (z w hw)
theorem NW.warm {s U : State} (h : s.WarmedH U.vm) (z : NW s) : NW U := by
  intro w hw
  have h1 := (List.mem_filter.mp hw).2
  have h2 := z w hw
  cases w <;> first | exact va_Nw.warmM h h2 | cases h1
