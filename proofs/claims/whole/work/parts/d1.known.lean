/-! what is known at the start -/
theorem arr_prim {s : State} {args : Array Value} {t : FieldType} (ht : ∀ C, t ≠ .object C) (hr : ∀ c, s.vm.findClass ("[" ++ t.toString) = some c → va_RA s c t) (hq : ∀ (cA : ClassId) (kA : Class) (comp : ClassId), s.vm.classes[cA]? = some kA → kA.kind = .array comp t → ArrOfT s cA t) (h : (Cond.arrayClass t).before args s = true) : ∃ cA, ArrOfT s cA t ∧ va_RA s cA t := by
  obtain ⟨c, k, comp, h1, h2, h3⟩ := Cond.arrayClass_spec h
  exact ⟨c, hq c k comp h2 h3, hr c h1⟩
theorem arr_obj {s : State} {args : Array Value} {C : String} (h : (Cond.arrayOver (.object C)).before args s = true) : ∃ cA, ArrOfT s cA (.object C) ∧ va_RA s cA (.object C) := by
  obtain ⟨comp, c, k, h1, h2, h3, h4, h5⟩ := Cond.arrayOver_spec h
  exact ⟨c, fun n z => ⟨(fun k h => by cases h), k, h3, comp, h4⟩, k, comp, h3, h4, h1, h5⟩
def tyT : List FieldType := [.int, .long, .byte, .boolean, .object "CrumpledSheet$Law", .object "CrumpledSheet$Doing", .object "CrumpledSheet$Rule", .object "CrumpledSheet$Strip", .object "CrumpledSheet$Pile", .object "CrumpledSheet$Sheet"]
theorem arr_all {s : State} {args : Array Value} (hts : ∀ w ∈ lw_tbl, w.before args s = true) : ∃ (f : Nat → ClassId), ∀ k ty, tyT[k]? = some ty → ArrOfT s (f k) ty ∧ va_RA s (f k) ty := by
  have h : ∀ k : Nat, ∃ cA : ClassId, ∀ ty, tyT[k]? = some ty → ArrOfT s cA ty ∧ va_RA s cA ty := fun k => by
    match k with
    | 0 =>
      obtain ⟨cA, h⟩ := arr_prim (t := .int) (fun C h => by cases h) (fun c h => h) (fun cA kA comp h2 h3 n z => ⟨(fun k h => by cases h), kA, h2, comp, h3⟩) (hts _ (t1_1 54 rfl))
      exact ⟨cA, fun ty e => by cases e; exact h⟩
    | 1 =>
      obtain ⟨cA, h⟩ := arr_prim (t := .long) (fun C h => by cases h) (fun c h => h) (fun cA kA comp h2 h3 n z => ⟨(fun k h => by cases h), kA, h2, comp, h3⟩) (hts _ (t1_1 55 rfl))
      exact ⟨cA, fun ty e => by cases e; exact h⟩
    | 2 =>
      obtain ⟨cA, h⟩ := arr_prim (t := .byte) (fun C h => by cases h) (fun c h => h) (fun cA kA comp h2 h3 n z => ⟨(fun k h => by cases h), kA, h2, comp, h3⟩) (hts _ (t1_1 79 rfl))
      exact ⟨cA, fun ty e => by cases e; exact h⟩
    | 3 =>
      obtain ⟨cA, h⟩ := arr_prim (t := .boolean) (fun C h => by cases h) (fun c h => h) (fun cA kA comp h2 h3 n z => ⟨(fun k h => by cases h), kA, h2, comp, h3⟩) (hts _ (t1_6 196 rfl))
      exact ⟨cA, fun ty e => by cases e; exact h⟩
    | 4 =>
      obtain ⟨cA, h⟩ := arr_obj (hts _ (t1_1 81 rfl))
      exact ⟨cA, fun ty e => by cases e; exact h⟩
    | 5 =>
      obtain ⟨cA, h⟩ := arr_obj (hts _ (t1_1 83 rfl))
      exact ⟨cA, fun ty e => by cases e; exact h⟩
    | 6 =>
      obtain ⟨cA, h⟩ := arr_obj (hts _ (t1_1 85 rfl))
      exact ⟨cA, fun ty e => by cases e; exact h⟩
    | 7 =>
      obtain ⟨cA, h⟩ := arr_obj (hts _ (t1_1 87 rfl))
      exact ⟨cA, fun ty e => by cases e; exact h⟩
    | 8 =>
      obtain ⟨cA, h⟩ := arr_obj (hts _ (t1_1 183 rfl))
      exact ⟨cA, fun ty e => by cases e; exact h⟩
    | 9 =>
      obtain ⟨cA, h⟩ := arr_obj (hts _ (t1_1 124 rfl))
      exact ⟨cA, fun ty e => by cases e; exact h⟩
    | k + 10 => exact ⟨0, fun ty e => by simp [tyT] at e⟩
  exact Classical.skolem.mp h
theorem cls_all {s : State} {args : Array Value} (hts : ∀ w ∈ lw_tbl, w.before args s = true) : ∃ (D : va_G), ∀ (c : Nat) (q : vw_C), vwCl[c]? = some q → u_Kn s q.1 q.2.1 q.2.2 (D.1 c) (D.2 c) := by
  have ht : ∀ w ∈ Tg, w.before args s = true := fun w hw => hts w (Tg_in hw)
  have h : ∀ c : Nat, ∃ x : ClassId × (Nat → Nat), ∀ q : vw_C, vwCl[c]? = some q → u_Kn s q.1 q.2.1 q.2.2 x.1 x.2 := fun c => by
    match c with
    | 0 =>
      obtain ⟨cC, iS, h⟩ := u_known (C := RX0) (T := TX0) (N := 4) (n := 4) ht inX0 (hts _ (t1_1 36 rfl))
      exact ⟨(cC, iS), fun q e => by cases e; exact h⟩
    | 1 =>
      obtain ⟨cC, iS, h⟩ := u_known (C := RX1) (T := TX1) (N := 4) (n := 4) ht inX1 (hts _ (t1_1 206 rfl))
      exact ⟨(cC, iS), fun q e => by cases e; exact h⟩
    | 2 =>
      obtain ⟨cC, iS, h⟩ := u_known (C := RX2) (T := TX2) (N := 5) (n := 5) ht inX2 (hts _ (t1_2 7 rfl))
      exact ⟨(cC, iS), fun q e => by cases e; exact h⟩
    | 3 =>
      obtain ⟨cC, iS, h⟩ := u_known (C := RX3) (T := TX3) (N := 7) (n := 7) ht inX3 (hts _ (t1_1 88 rfl))
      exact ⟨(cC, iS), fun q e => by cases e; exact h⟩
    | 4 =>
      obtain ⟨cC, iS, h⟩ := u_known (C := RX4) (T := TX4) (N := 5) (n := 5) ht inX4 (hts _ (t1_1 226 rfl))
      exact ⟨(cC, iS), fun q e => by cases e; exact h⟩
    | 5 =>
      obtain ⟨cC, iS, h⟩ := u_known (C := RX5) (T := TX5) (N := 3) (n := 3) ht inX5 (hts _ (t1_1 118 rfl))
      exact ⟨(cC, iS), fun q e => by cases e; exact h⟩
    | 6 =>
      obtain ⟨cC, iS, h⟩ := u_known (C := RX6) (T := TX6) (N := 7) (n := 7) ht inX6 (hts _ (t1_1 30 rfl))
      exact ⟨(cC, iS), fun q e => by cases e; exact h⟩
    | 7 =>
      obtain ⟨cC, iS, h⟩ := u_known (C := RX7) (T := TX7) (N := 5) (n := 5) ht inX7 (hts _ (t1_2 28 rfl))
      exact ⟨(cC, iS), fun q e => by cases e; exact h⟩
    | 8 =>
      obtain ⟨cC, iS, h⟩ := u_known (C := RX8) (T := TX8) (N := 14) (n := 14) ht inX8 (hts _ (t1_1 125 rfl))
      exact ⟨(cC, iS), fun q e => by cases e; exact h⟩
    | 9 =>
      obtain ⟨cC, iS, h⟩ := u_known (C := RX9) (T := TX9) (N := 4) (n := 4) ht inX9 (hts _ (t1_1 187 rfl))
      exact ⟨(cC, iS), fun q e => by cases e; exact h⟩
    | 10 =>
      obtain ⟨cC, iS, h⟩ := u_known (C := RX10) (T := TX10) (N := 7) (n := 7) ht inX10 (hts _ (t1_2 51 rfl))
      exact ⟨(cC, iS), fun q e => by cases e; exact h⟩
    | 11 =>
      obtain ⟨cC, iS, h⟩ := u_known (C := RX11) (T := TX11) (N := 15) (n := 15) ht inX11 (hts _ (t1_1 22 rfl))
      exact ⟨(cC, iS), fun q e => by cases e; exact h⟩
    | 12 =>
      obtain ⟨cC, iS, h⟩ := u_known (C := RX12) (T := TX12) (N := 36) (n := 36) ht inX12 (hts _ (t1_6 80 rfl))
      exact ⟨(cC, iS), fun q e => by cases e; exact h⟩
    | c + 13 => exact ⟨(0, fun _ => 0), fun q e => by simp [vwCl] at e⟩
  obtain ⟨f, hf⟩ := Classical.skolem.mp h
  exact ⟨(fun c => (f c).1, fun c => (f c).2), hf⟩
def tmS (i : Nat) : Term := .string "CrumpledSheet$Reader" (litI.getD i 0)
def strV (i : Nat) : Term := .field (tmS i) "java/lang/String" "value" "[B"
def strL (i : Nat) : List Cond := [Cond.exactly (tmS i) "java/lang/String", Cond.eq (.field (tmS i) "java/lang/String" "coder" "B") (.int 0), Cond.arrayOf (strV i) .byte, Cond.eq (.length (strV i)) (.int (Int32.ofNat (litN.getD i 0)))] ++ ((List.range (litN.getD i 0)).map (fun j => Cond.eq (.elem (strV i) (.int (Int32.ofNat j))) (.int ((litB.getD i []).getD j 0))) ++ (List.range i).map (fun k => Cond.not (Cond.eq (tmS k) (tmS i))))
theorem strL_eq : (flatC (Jvm.Cond.and given_1 narrow_1)).drop 87 = (List.range 11).flatMap strL := by decide +kernel
theorem strL_in {i : Nat} {w : Cond} (hi : i < 11) (h : w ∈ strL i) : w ∈ flatC (Jvm.Cond.and given_1 narrow_1) := by
  have h1 : w ∈ (flatC (Jvm.Cond.and given_1 narrow_1)).drop 87 := by
    rw [strL_eq]
    exact List.mem_flatMap.mpr ⟨i, List.mem_range.mpr hi, h⟩
  exact List.mem_of_mem_drop h1
theorem strL_a {i j : Nat} (hj : j < litN.getD i 0) : Cond.eq (.elem (strV i) (.int (Int32.ofNat j))) (.int ((litB.getD i []).getD j 0)) ∈ strL i :=
  List.mem_append_right _ (List.mem_append_left _ (List.mem_map.mpr ⟨j, List.mem_range.mpr hj, rfl⟩))
theorem strL_b {i k : Nat} (hk : k < i) : Cond.not (Cond.eq (tmS k) (tmS i)) ∈ strL i :=
  List.mem_append_right _ (List.mem_append_right _ (List.mem_map.mpr ⟨k, List.mem_range.mpr hk, rfl⟩))
theorem strL_h {i n : Nat} (hn : n < 4) : (([Cond.exactly (tmS i) "java/lang/String", Cond.eq (.field (tmS i) "java/lang/String" "coder" "B") (.int 0), Cond.arrayOf (strV i) .byte, Cond.eq (.length (strV i)) (.int (Int32.ofNat (litN.getD i 0)))] : List Cond)[n]'hn) ∈ strL i :=
  List.mem_append_left _ (List.getElem_mem _)
theorem str_all {s : State} {b : Nat} (h : (Jvm.Cond.and given_1 narrow_1).before #[Value.ref b] s = true) : ∃ adK adV : Nat → Nat, vk_S 11 litN litB adK adV (fun q => s.heap.size ≤ q) s s.heap ∧ ∀ i : Nat, i < 11 → (tmS i).eval #[Value.ref b] s none [] s = some (.ref (adK i)) := by
  have hs := flat_of_before _ h
  refine vk_Sof (by decide) (fun i hi => hs _ (strL_in hi (strL_h (n := 0) (by decide)))) (fun i hi => hs _ (strL_in hi (strL_h (n := 1) (by decide)))) (fun i hi => hs _ (strL_in hi (strL_h (n := 2) (by decide)))) (fun i hi => hs _ (strL_in hi (strL_h (n := 3) (by decide)))) (fun i hi j hj => hs _ (strL_in hi (strL_a hj))) (fun i j hi hj hij => ?_) (fun a ha => Nat.not_le.mpr ha)
  by_cases hk : i < j
  · exact Or.inl (hs _ (strL_in hj (strL_b hk)))
  · exact Or.inr (hs _ (strL_in hi (strL_b (show j < i by omega))))
theorem ref_all {s : State} {args : Array Value} (hts : ∀ w ∈ lw_tbl, w.before args s = true) : ∀ i, i < 11 → (Cond.stringRef "CrumpledSheet$Reader" (litI.getD i 0) (litT.getD i "")).before args s = true := fun i hi => by
  match i, hi with
  | 0, _ => exact hts _ (t1_1 56 rfl)
  | 1, _ => exact hts _ (t1_2 175 rfl)
  | 2, _ => exact hts _ (t1_3 44 rfl)
  | 3, _ => exact hts _ (t1_3 57 rfl)
  | 4, _ => exact hts _ (t1_3 62 rfl)
  | 5, _ => exact hts _ (t1_3 63 rfl)
  | 6, _ => exact hts _ (t1_3 81 rfl)
  | 7, _ => exact hts _ (t1_3 82 rfl)
  | 8, _ => exact hts _ (t1_3 88 rfl)
  | 9, _ => exact hts _ (t1_3 102 rfl)
  | 10, _ => exact hts _ (t1_3 103 rfl)
  | i + 11, hi => exact absurd hi (by omega)
theorem KN_start {s : State} {b L : Nat} {xs : Nat → Int32} (l : Launch) (hts : ∀ w ∈ lw_tbl, w.before #[Value.ref b] s = true) (hX : va_X b L xs s s.heap) (hb : b < s.heap.size) (h : (Jvm.Cond.and given_1 narrow_1).before #[Value.ref b] s = true) : ∃ κ : Ko, κ.1 = l ∧ kB (kt κ) = s.heap.size ∧ kX (kt κ) = (b, L, xs) ∧ KN (kf κ) s := by
  have hs := flat_of_before _ h
  have hA : ∀ a : Nat, a < s.heap.size → ¬ s.heap.size ≤ a := fun a ha => Nat.not_le.mpr ha
  obtain ⟨D, hD⟩ := cls_all hts
  obtain ⟨f, hf⟩ := arr_all hts
  obtain ⟨adK, adV, hS, hE⟩ := str_all h
  refine ⟨(l, D, fun j => f (j - 50), s.heap.size, (b, L, xs), (adK, adV)), rfl, rfl, rfl, ⟨hD, fun k q hk => ?_⟩, fun w hw => ?_, ⟨hX, hb, hS, fun i hi => ?_, ?_, ?_⟩, ?_⟩
  · match k, hk with
    | 0, hk => cases hk; exact hf 0 _ rfl
    | 1, hk => cases hk; exact hf 1 _ rfl
    | 2, hk => cases hk; exact hf 2 _ rfl
    | 3, hk => cases hk; exact hf 3 _ rfl
    | 4, hk => cases hk; exact hf 4 _ rfl
    | 5, hk => cases hk; exact hf 5 _ rfl
    | 6, hk => cases hk; exact hf 6 _ rfl
    | 7, hk => cases hk; exact hf 7 _ rfl
    | 8, hk => cases hk; exact hf 8 _ rfl
    | 9, hk => cases hk; exact hf 9 _ rfl
    | k + 10, hk => simp [tyl] at hk
  · exact va_Nw.of (isNest_on (List.mem_filter.mp hw).2) (hts w (List.mem_filter.mp hw).1)
  · exact vk_R.of (ref_all hts i hi) (hE i hi)
  · exact va_Zof (hts _ (t1_2 201 rfl)) (hts _ (t1_1 14 rfl)) (va_eqt (hs (Cond.eq (.static "java/lang/String" "COMPACT_STRINGS" "Z") (.int 1)) (by decide +kernel))) hA
  · exact va_Zqof (hts _ (t1_2 217 rfl)) (hts _ (t1_1 16 rfl)) (hs (Cond.isRef (.static "jdk/internal/util/Preconditions" "SIOOBE_FORMATTER" "Ljava/util/function/BiFunction;")) (by decide +kernel)) hA
  · exact ⟨va_AO.of (hts _ (t1_1 81 rfl)), va_AO.of (hts _ (t1_1 83 rfl)), va_AO.of (hts _ (t1_1 85 rfl)), va_AO.of (hts _ (t1_1 87 rfl)), va_AO.of (hts _ (t1_1 183 rfl)), va_AO.of (hts _ (t1_1 124 rfl))⟩
