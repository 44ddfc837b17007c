/-! sizes, the likest sheet, halves, counts: both classes -/
section Pure8
variable {κ : Ko} {C : Nat → Nat} {n m : Nat} {T : Nat → Nat} {dt rt : AS}
theorem likest_d (κ : Ko) (st : AS) (d B : Nat) (x1 : Int32) (a2 : Nat) (x3 x4 x5 : Int32) : L_X_likest_25 κ st (d + 1) B x1 a2 x3 x4 x5 = if (f_Pl_size κ (B + 21) st) ≤ x5 then some x3 else bnd (f_Pl_get κ (B + 21) x5 st) (fun v4 => nul v4 (L_X_likest_25 κ st d B x1 a2 (if x4 ≤ 2147483647 then x3 else x5) (if x4 ≤ 2147483647 then x4 else 2147483647) (x5 + 1)) (fun c5 => grd (ly κ c5 = (8, 14)) (if x5 = x1 then L_X_likest_25 κ st d B x1 a2 (if x4 ≤ 2147483647 then x3 else x5) (if x4 ≤ 2147483647 then x4 else 2147483647) (x5 + 1) else bnd (f_Sh_apartFrom κ a2 c5 st) (fun v7 => L_X_likest_25 κ st d B x1 a2 (if x4 ≤ v7 then x3 else x5) (if x4 ≤ v7 then x4 else v7) (x5 + 1))))) := rfl
theorem q_likestL (h : GRc κ C n T m dt rt) {i : Nat} (hi : i < m) : ∀ k j d d' (b bd : Int32), j + k = m → k < d → k < d' → ((b = -2 ∧ bd = 2147483647) ∨ ∃ u c, u < m ∧ c ≤ 3200 ∧ b = nI u ∧ bd = nI c ∧ f_R_differ κ (QQ κ) (nI i) (nI u) rt = some (nI c)) →
    Both (L_X_likest_25 κ dt d (kB (kt κ)) (nI i) (HA κ i) b bd (nI j)) (L_R_likest_15 κ rt d' (QQ κ) (nI i) b (nI j))
  | 0, j, d, d', b, bd, hj, hd, hd', hb => by
    obtain ⟨d, rfl⟩ : ∃ z, d = z + 1 := ⟨d - 1, by omega⟩
    obtain ⟨d', rfl⟩ : ∃ z, d' = z + 1 := ⟨d' - 1, by omega⟩
    have hm := h.m6
    have e1 : f_Pl_size κ (kB (kt κ) + 21) dt = nI m := h.1.2.2.2.2.2.1
    rw [likest_d, L_R_likest_15, e1, h.1.2.2.2.2.2.2.1, if_pos (nI_le (by omega) (by omega)), if_pos (nI_le (by omega) (by omega))]
    exact Both.mk _
  | k + 1, j, d, d', b, bd, hj, hd, hd', hb => by
    obtain ⟨d, rfl⟩ : ∃ z, d = z + 1 := ⟨d - 1, by omega⟩
    obtain ⟨d', rfl⟩ : ∃ z, d' = z + 1 := ⟨d' - 1, by omega⟩
    have hm := h.m6
    have hj' : j < m := by omega
    have e1 : f_Pl_size κ (kB (kt κ) + 21) dt = nI m := h.1.2.2.2.2.2.1
    have ih := fun b bd hb => q_likestL h hi k (j + 1) d d' b bd (by omega) (by omega) (by omega) hb
    have hS := h.sr hi
    have hS' := h.sr hj'
    have hmax : ∀ z : Int32, z ≤ 2147483647 := fun z => by
      rw [i32le, show (2147483647 : Int32).toInt = 2147483647 from rfl]
      have := z.toInt_le
      rw [show Int32.maxValue.toInt = 2147483647 from rfl] at this
      exact this
    have hpl : f_Pl_get κ (kB (kt κ) + 21) (nI j) dt = some (some (HA κ j)) := by
      rcases h.pl (nI j) with ⟨j', h1, h2, h3, -⟩ | ⟨h1, h2⟩
      · have : j = j' := (nI_eq (by omega) (by omega)).mp h2
        rw [this]; exact this ▸ h3
      · exfalso
        unfold f_R_isSheet at h2
        rw [jn_e, if_neg (Int32.not_lt.mpr (nI_ge0 (by omega))), h.1.2.2.2.2.2.2.1, if_neg (nI_ge hj' (by omega))] at h2
        exact absurd h2 (by decide)
    rw [likest_d, L_R_likest_15, e1, h.1.2.2.2.2.2.2.1, if_neg (nI_ge hj' (by omega)), if_neg (nI_ge hj' (by omega)), hpl, bnd_t, nulS, grd_t hS'.1.1, if_pos (hmax bd), if_pos (hmax bd), nI_1]
    simp only [jn_e]
    by_cases e : nI j = nI i
    · rw [if_pos e, if_pos e]; exact ih b bd hb
    · obtain ⟨c, hc, g1, g2⟩ := q_apartN hS hS'
      rw [if_neg e, if_neg e, g1, g2, bnd_t, bnd_t]
      rcases hb with ⟨rfl, rfl⟩ | ⟨u, c', hu, hc', rfl, rfl, hw⟩
      · have : ¬ (2147483647 : Int32) ≤ nI c := nI_ge (b := 2147483647) (by omega) (by decide)
        rw [if_neg this, if_neg this, if_pos (show (-2 : Int32) < 0 by decide)]
        exact ih _ _ (Or.inr ⟨j, c, hj', hc, rfl, rfl, g2⟩)
      · have hn : ¬ nI u < 0 := Int32.not_lt.mpr (nI_ge0 (by omega))
        rw [if_neg hn, hw, bnd_t]
        by_cases e2 : nI c' ≤ nI c
        · rw [if_pos e2, if_pos e2, if_pos e2]
          exact ih _ _ (Or.inr ⟨u, c', hu, hc', rfl, rfl, hw⟩)
        · rw [if_neg e2, if_neg e2, if_neg e2]
          exact ih _ _ (Or.inr ⟨j, c, hj', hc, rfl, rfl, g2⟩)
theorem x_likest (h : GRc κ C n T m dt rt) (x : Int32) : Both (f_X_likest κ (kB (kt κ)) x dt) (f_R_likest κ (QQ κ) x rt) := by
  unfold f_X_likest f_R_likest
  rcases h.pl x with ⟨i, hi, rfl, e1, e2⟩ | ⟨e1, e2⟩
  · rw [e1, e2, bnd_t, nulS, grd_t (h.sr hi).1.1, if_neg (show ¬ (1 : Int32) = 0 by decide)]
    exact q_likestL h hi m 0 FU FU (-2) 2147483647 (by omega) (FUn (by have := h.m6; omega)) (FUn (by have := h.m6; omega)) (Or.inl ⟨rfl, rfl⟩)
  · rw [e1, e2, bnd_t, nulN, if_pos rfl]; exact Both.mk _
theorem half_n {n : Nat} (hn : 1 ≤ n) : (nI n - 1) / 2 = nI ((n - 1) / 2) ∨ ¬ n < 2 ^ 31 := by
  by_cases h : n < 2 ^ 31
  · left
    rw [show (nI n - 1 : Int32) = nI (n - 1) by rw [show n = (n - 1) + 1 by omega, nI_pred]; rfl]
    exact pk_div (a := n - 1) (d := 2) (by omega) (by decide) (by decide)
  · exact Or.inr h
theorem x_sizes (h : GRc κ C n T m dt rt) (x y : Int32) : Both (f_X_sizes κ (kB (kt κ)) x y dt) (f_R_sizes κ (QQ κ) x y rt) := by
  unfold f_X_sizes f_R_sizes
  simp only [jn_e]
  rcases h.pl x with ⟨i, hi, rfl, e1, e2⟩ | ⟨e1, e2⟩
  · have hm := h.m6
    have hS := h.sr hi
    have hF := hS.nf
    have ec : f_Sh_facetCount κ (HA κ i) dt = nI (nF (rw_ rt (QQ κ) i)) := d_nf hS
    rw [e1, e2, bnd_t, nulS, grd_t hS.1.1, if_neg (show ¬ (1 : Int32) = 0 by decide), rs6 hS, bnd_t, ec, hF.1]
    by_cases h2 : wi y.toInt64 (0 : Int64) (2 : Int64) = 0
    · rw [if_pos h2]
      have hn : ∀ k, k < 3 → ¬ y = nI k := fun k hk z => by
        rw [z] at h2
        exact (wi_t (x := nI k) (lo := 0) (hi := 2)).mp h2 ⟨nI_ge0 (by omega), nI_le (b := 2) (by omega) (by decide)⟩
      rw [if_neg (show ¬ y = 0 from hn 0 (by decide)), if_neg (show ¬ y = 1 from hn 1 (by decide)), if_neg (show ¬ y = 2 from hn 2 (by decide))]
      exact Both.mk _
    · obtain ⟨p, hp, rfl⟩ := wi0 (c := 2) (by decide) rfl h2
      rw [if_neg h2]
      have hc : p = 0 ∨ p = 1 ∨ p = 2 := by omega
      have hpred : nI (nF (rw_ rt (QQ κ) i)) - 1 = nI (nF (rw_ rt (QQ κ) i) - 1) := by
        generalize nF (rw_ rt (QQ κ) i) = N at hF
        rw [show N = (N - 1) + 1 by omega, nI_pred]; rfl
      rcases hc with rfl | rfl | rfl
      · obtain ⟨v, g1, g2⟩ := q_rank hS (p := 0) (by omega)
        have g1' : f_Sh_areaOfRank κ (HA κ i) 0 dt = some v := g1
        rw [if_pos (show nI 0 = 0 from rfl), if_pos (show nI 0 = 0 from rfl), g1', bnd_t]
        exact ⟨v, rfl, g2⟩
      · obtain ⟨v, g1, g2⟩ := q_rank hS (p := nF (rw_ rt (QQ κ) i) - 1) (by omega)
        rw [if_neg (show ¬ nI 1 = 0 by decide), if_pos (show nI 1 = 1 from rfl), if_neg (show ¬ nI 1 = 0 by decide), if_pos (show nI 1 = 1 from rfl), hpred, g1, bnd_t]
        exact ⟨v, rfl, g2⟩
      · obtain ⟨v, g1, g2⟩ := q_rank hS (p := (nF (rw_ rt (QQ κ) i) - 1) / 2) (by omega)
        have hh := (half_n (n := nF (rw_ rt (QQ κ) i)) (by omega)).resolve_right (fun z => z (by omega))
        rw [if_neg (show ¬ nI 2 = 0 by decide), if_neg (show ¬ nI 2 = 1 by decide), if_pos (show nI 2 = 2 from rfl), if_neg (show ¬ nI 2 = 0 by decide), if_neg (show ¬ nI 2 = 1 by decide), hh, g1, bnd_t]
        exact ⟨v, rfl, g2⟩
  · rw [e1, e2, bnd_t, nulN, if_pos rfl]; exact Both.mk _
/-- halvings -/
theorem shl_n : ∀ i, i ≤ 10 → (1 : Int32) <<< (nI i &&& 31) = nI (2 ^ i) := by decide +kernel
theorem q_halve {a : Nat} (ha : a ≤ 999) (y : Int32) (kk : Int32 → Int32 → Option Int32) : ∀ k i d d', i + k = 10 → k < d → k < d' → ∃ e, e ≤ 10 ∧ L_X_halvings_2 κ dt d (nI a) (nI i) = some (nI e) ∧ L_R_halves_28 κ rt kk d' (nI a) y (nI i) = kk y (nI e) ∧ ∀ z d2, k < d2 → L_R_halves_44 κ rt d2 (nI a) z (nI i) = some (z + nI e)
  | 0, i, d, d', hi, hd, hd' => by
    obtain ⟨d, rfl⟩ : ∃ z, d = z + 1 := ⟨d - 1, by omega⟩
    obtain ⟨d', rfl⟩ : ∃ z, d' = z + 1 := ⟨d' - 1, by omega⟩
    obtain rfl : i = 10 := by omega
    have hp : nI a ≤ (1 : Int32) <<< (nI 10 &&& 31) := by rw [shl_n 10 (by decide)]; exact nI_le (by omega) (by decide)
    rw [L_X_halvings_2, L_R_halves_28, if_neg (show ¬ (30 : Int32) ≤ nI 10 by decide), if_pos hp, if_pos hp]
    refine ⟨10, by omega, rfl, rfl, fun z d2 h2 => ?_⟩
    obtain ⟨d2, rfl⟩ : ∃ z, d2 = z + 1 := ⟨d2 - 1, by omega⟩
    rw [L_R_halves_44, if_pos hp]
  | k + 1, i, d, d', hi, hd, hd' => by
    obtain ⟨d, rfl⟩ : ∃ z, d = z + 1 := ⟨d - 1, by omega⟩
    obtain ⟨d', rfl⟩ : ∃ z, d' = z + 1 := ⟨d' - 1, by omega⟩
    have h30 : ¬ (30 : Int32) ≤ nI i := nI_ge (b := 30) (by omega) (by decide)
    rw [L_X_halvings_2, L_R_halves_28, if_neg h30]
    by_cases hp : nI a ≤ (1 : Int32) <<< (nI i &&& 31)
    · rw [if_pos hp, if_pos hp]
      refine ⟨i, by omega, rfl, rfl, fun z d2 h2 => ?_⟩
      obtain ⟨d2, rfl⟩ : ∃ z, d2 = z + 1 := ⟨d2 - 1, by omega⟩
      rw [L_R_halves_44, if_pos hp]
    · obtain ⟨e, h1, h2, h3, h4⟩ := q_halve ha y kk k (i + 1) d d' (by omega) (by omega) (by omega)
      rw [if_neg hp, if_neg hp, nI_1]
      refine ⟨e, h1, h2, h3, fun z d2 h5 => ?_⟩
      obtain ⟨d2, rfl⟩ : ∃ z, d2 = z + 1 := ⟨d2 - 1, by omega⟩
      rw [L_R_halves_44, if_neg hp, nI_1]
      exact h4 z d2 (by omega)
theorem x_halves (x y : Int32) : Both (f_X_halves κ (kB (kt κ)) x y dt) (f_R_halves κ (QQ κ) x y rt) := by
  unfold f_X_halves f_R_halves f_X_halvings
  simp only [jn_e]
  by_cases h1 : wi x.toInt64 (1 : Int64) (999 : Int64) = 0
  · rw [if_pos h1, if_pos h1]; exact Both.mk _
  · rw [if_neg h1, if_neg h1]
    by_cases h2 : wi y.toInt64 (1 : Int64) (999 : Int64) = 0
    · rw [if_pos h2, if_pos h2]; exact Both.mk _
    · obtain ⟨a, a1, a2, rfl⟩ := wi1 (c := 999) (by decide) rfl h1
      obtain ⟨b, b1, b2, rfl⟩ := wi1 (c := 999) (by decide) rfl h2
      obtain ⟨e, e1, e2, e3, -⟩ := q_halve (κ := κ) (dt := dt) (rt := rt) a2 (nI b) (fun (v2 : Int32) (v3 : Int32) => L_R_halves_44 κ rt FU v2 v3 (0 : Int32)) 10 0 FU FU (by omega) (FUn (by omega)) (FUn (by omega))
      obtain ⟨g, g1, g2, -, g4⟩ := q_halve (κ := κ) (dt := dt) (rt := rt) b2 0 (fun _ _ => none) 10 0 FU FU (by omega) (FUn (by omega)) (FUn (by omega))
      have e2' : L_X_halvings_2 κ dt FU (nI a) 0 = some (nI e) := e2
      have g2' : L_X_halvings_2 κ dt FU (nI b) 0 = some (nI g) := g2
      rw [if_neg h2, if_neg h2, e2', g2', bnd_t, bnd_t]
      exact ⟨_, rfl, e3.trans (g4 (nI e) FU (FUn (by omega)))⟩
/-- counts of all sheets -/
theorem q_allF (h : GRc κ C n T m dt rt) : ∀ k i d d' t, i + k = m → k < d → k < d' → Both (L_Pl_facetsOfAll_4 κ dt d (kB (kt κ) + 21) t (nI i)) (L_R_count_64 κ rt d' (QQ κ) 5 t (nI i))
  | 0, i, d, d', t, hi, hd, hd' => by
    obtain ⟨d, rfl⟩ : ∃ z, d = z + 1 := ⟨d - 1, by omega⟩
    obtain ⟨d', rfl⟩ : ∃ z, d' = z + 1 := ⟨d' - 1, by omega⟩
    have hm := h.m6
    rw [L_Pl_facetsOfAll_4, L_R_count_64, h.1.2.2.2.2.2.1, h.1.2.2.2.2.2.2.1, if_pos (nI_le (by omega) (by omega)), if_pos (nI_le (by omega) (by omega))]
    exact Both.mk _
  | k + 1, i, d, d', t, hi, hd, hd' => by
    obtain ⟨d, rfl⟩ : ∃ z, d = z + 1 := ⟨d - 1, by omega⟩
    obtain ⟨d', rfl⟩ : ∃ z, d' = z + 1 := ⟨d' - 1, by omega⟩
    have hm := h.m6
    have hi' : i < m := by omega
    have hS := h.sr hi'
    have s6 : f_Sh_facetCount κ (HA κ i) dt = rw_ rt (QQ κ) i 6 := hS.1.2.1.2.2.2.2.2.1
    rw [L_Pl_facetsOfAll_4, L_R_count_64, h.1.2.2.2.2.2.1, h.1.2.2.2.2.2.2.1, if_neg (nI_ge hi' (by omega)), if_neg (nI_ge hi' (by omega)), if_neg (show ¬ (6 : Int32) ≤ nI i from nI_ge (b := 6) (by omega) (by decide)), grd_t (vp_in_nI (by omega) (by decide)), nI_clamp (by omega), show kB (kt κ) + 21 + 1 = kB (kt κ) + 22 by omega, h.1.2.2.2.1.1 i (by omega), bnd_t, grd_t hS.1.1, s6, r_sheet hS.2.2 (k := 6) (y := 5 + 1) (by decide) (by decide), bnd_t, nI_1]
    exact q_allF h k (i + 1) d d' _ (by omega) (by omega) (by omega)
theorem q_allR (h : GRc κ C n T m dt rt) : ∀ k i d d' t, i + k = m → k < d → k < d' → Both (L_Pl_ridgesOfAll_4 κ dt d (kB (kt κ) + 21) t (nI i)) (L_R_count_64 κ rt d' (QQ κ) 6 t (nI i))
  | 0, i, d, d', t, hi, hd, hd' => by
    obtain ⟨d, rfl⟩ : ∃ z, d = z + 1 := ⟨d - 1, by omega⟩
    obtain ⟨d', rfl⟩ : ∃ z, d' = z + 1 := ⟨d' - 1, by omega⟩
    have hm := h.m6
    rw [L_Pl_ridgesOfAll_4, L_R_count_64, h.1.2.2.2.2.2.1, h.1.2.2.2.2.2.2.1, if_pos (nI_le (by omega) (by omega)), if_pos (nI_le (by omega) (by omega))]
    exact Both.mk _
  | k + 1, i, d, d', t, hi, hd, hd' => by
    obtain ⟨d, rfl⟩ : ∃ z, d = z + 1 := ⟨d - 1, by omega⟩
    obtain ⟨d', rfl⟩ : ∃ z, d' = z + 1 := ⟨d' - 1, by omega⟩
    have hm := h.m6
    have hi' : i < m := by omega
    have hS := h.sr hi'
    have s7 : f_Sh_ridgeCount κ (HA κ i) dt = rw_ rt (QQ κ) i 7 := hS.1.2.1.2.2.2.2.2.2.1
    rw [L_Pl_ridgesOfAll_4, L_R_count_64, h.1.2.2.2.2.2.1, h.1.2.2.2.2.2.2.1, if_neg (nI_ge hi' (by omega)), if_neg (nI_ge hi' (by omega)), if_neg (show ¬ (6 : Int32) ≤ nI i from nI_ge (b := 6) (by omega) (by decide)), grd_t (vp_in_nI (by omega) (by decide)), nI_clamp (by omega), show kB (kt κ) + 21 + 1 = kB (kt κ) + 22 by omega, h.1.2.2.2.1.1 i (by omega), bnd_t, grd_t hS.1.1, s7, r_sheet hS.2.2 (k := 7) (y := 6 + 1) (by decide) (by decide), bnd_t, nI_1]
    exact q_allR h k (i + 1) d d' _ (by omega) (by omega) (by omega)
theorem x_count (h : GRc κ C n T m dt rt) (x : Int32) : Both (f_X_count κ (kB (kt κ)) x dt) (f_R_count κ (QQ κ) x rt) := by
  have hm := h.m6
  have a5 := q_allF h m 0 FU FU 0 (by omega) (FUn (by omega)) (FUn (by omega))
  have a6 := q_allR h m 0 FU FU 0 (by omega) (FUn (by omega)) (FUn (by omega))
  have e0 : f_Pl_size κ (kB (kt κ) + 21) dt = nI m := h.1.2.2.2.2.2.1
  have e7 : gi dt (kB (kt κ)) 1 = gi rt (QQ κ) 1 := by rw [h.1.2.2.1.2.1, h.1.2.2.1.2.2.1.1]
  have cn : ∀ s, s < 4 → gat (gi dt (kB (kt κ) + 7)) 4 (nI s) = gi rt (QQ κ + 2) s := fun s hs => by rw [(h.cnt hs).2.1, (h.cnt hs).2.2]
  unfold f_X_count f_R_count
  simp only [jn_e]
  by_cases x0 : x = 0
  · rw [if_pos x0, if_pos x0, e0, h.1.2.2.2.2.2.2.1]; exact Both.mk _
  · rw [if_neg x0, if_neg x0]
    by_cases x1 : x = 1
    · subst x1
      rw [if_pos rfl, if_pos rfl, grd_t (show vp_in ((1 : Int32) - 1) 4 from vp_in_nI (n := 0) (by decide) (by decide))]
      exact ⟨_, rfl, congrArg some (cn 0 (by decide)).symm⟩
    · rw [if_neg x1, if_neg x1]
      by_cases x2 : x = 2
      · subst x2
        rw [if_pos rfl, if_pos rfl, grd_t (show vp_in ((2 : Int32) - 1) 4 from vp_in_nI (n := 1) (by decide) (by decide))]
        exact ⟨_, rfl, congrArg some (cn 1 (by decide)).symm⟩
      · rw [if_neg x2, if_neg x2]
        by_cases x3 : x = 3
        · subst x3
          rw [if_pos rfl, if_pos rfl, grd_t (show vp_in ((3 : Int32) - 1) 4 from vp_in_nI (n := 2) (by decide) (by decide))]
          exact ⟨_, rfl, congrArg some (cn 2 (by decide)).symm⟩
        · rw [if_neg x3, if_neg x3]
          by_cases x4 : x = 4
          · subst x4
            rw [if_pos rfl, if_pos rfl, grd_t (show vp_in ((4 : Int32) - 1) 4 from vp_in_nI (n := 3) (by decide) (by decide))]
            exact ⟨_, rfl, congrArg some (cn 3 (by decide)).symm⟩
          · rw [if_neg x4, if_neg x4]
            by_cases x5 : x = 5
            · subst x5
              rw [if_pos rfl, if_pos rfl]
              obtain ⟨v, g1, g2⟩ := a5
              have g1' : f_Pl_facetsOfAll κ (kB (kt κ) + 21) dt = some v := g1
              rw [g1', bnd_t]
              exact ⟨v, rfl, g2⟩
            · rw [if_neg x5, if_neg x5]
              by_cases x6 : x = 6
              · subst x6
                rw [if_pos rfl, if_pos rfl]
                obtain ⟨v, g1, g2⟩ := a6
                have g1' : f_Pl_ridgesOfAll κ (kB (kt κ) + 21) dt = some v := g1
                rw [g1', bnd_t]
                exact ⟨v, rfl, g2⟩
              · rw [if_neg x6, if_neg x6, e7]
                by_cases x7 : x = 7
                · rw [if_pos x7]; exact Both.mk _
                · rw [if_neg x7]; exact Both.mk _
end Pure8
