section RTurn
variable {κ : Ko}
theorem r_exch {rt : AS} {q s j1 j2 : Nat} (hs : s < 7) (h1 : j1 < 3680) (h2 : j2 < 3680) (n1 : j1 ≠ 3) (n2 : j2 ≠ 3) : ∃ rt', f_R_exchange κ q (nI (3680 * s + j1)) (nI (3680 * s + j2)) rt = some rt' ∧ rw_ rt' q s = setS (setS (rw_ rt q s) j1 (rw_ rt q s j2)) j2 (rw_ rt q s j1) ∧ FrR q s rt rt' := by
  unfold f_R_exchange
  rw [grd_t (vp_in_nI (by omega) (by decide)), grd_t (vp_in_nI (by omega) (by decide)), grd_t (vp_in_nI (by omega) (by decide)), grd_t (vp_in_nI (by omega) (by decide)), nI_clamp (by omega), nI_clamp (by omega), giS, giS]
  exact ⟨_, rfl, by rw [rw_ui, rw_ui], ((FrR.rf q s rt).ui ⟨h1, n1⟩).ui ⟨h2, n2⟩⟩
theorem r_turnF {rt : AS} {q s : Nat} {S : Nat → Int32} (hs : s < 7) (h : rw_ rt q s = turnF S 0) (h6 : S 6 = nI (nF S)) (hF : nF S ≤ 200) (k : Nat → Int32 → AS → Option AS) : ∃ rt', L_R_turns_18 κ k FU q (nI s) 0 rt = k q (nI s) rt' ∧ rw_ rt' q s = turnF S (nF S) ∧ FrR q s rt rt' := by
  refine lk1 (fun d t i => L_R_turns_18 κ k d q (nI s) i t) (fun z => ∃ rt', z = k q (nI s) rt' ∧ rw_ rt' q s = turnF S (nF S) ∧ FrR q s rt rt') (fun i t => rw_ t q s = turnF S i ∧ FrR q s rt t) (n := nF S) ?_ ?_ (nF S) 0 FU rt (by omega) (FUn (by omega)) ⟨h, FrR.rf _ _ _⟩
  · rintro d t ⟨g1, g2⟩
    have e6 : rw_ t q s 6 = nI (nF S) := by rw [g1, turnF_at (by decide) (Or.inl (by decide))]; exact h6
    rw [L_R_turns_18, r_sheet hs (k := 6) (y := 6) (by decide) rfl, bnd_t, e6, if_pos (nI_le (Nat.le_refl _) (by omega))]
    exact ⟨t, rfl, g1, g2⟩
  · rintro d t i hi ⟨g1, g2⟩ ih
    have e6 : rw_ t q s 6 = nI (nF S) := by rw [g1, turnF_at (by decide) (Or.inl (by decide))]; exact h6
    have at_ : ∀ u, u < 4 → turnF S i (10 + 4 * i + u) = S (10 + 4 * i + u) := fun u hu => turnF_at (by omega) (Or.inr (by omega))
    rw [L_R_turns_18, r_sheet hs (k := 6) (y := 6) (by decide) rfl, bnd_t, e6, if_neg (nI_ge hi (by omega))]
    simp only [ixF0, nI_k _ 1 (y := 1) rfl, nI_k _ 2 (y := 2) rfl, nI_k _ 3 (y := 3) rfl]
    obtain ⟨t1, p1, p2, p3⟩ := r_exch (κ := κ) (rt := t) (q := q) hs (j1 := 10 + 4 * i + 0) (j2 := 10 + 4 * i + 1) (by omega) (by omega) (by omega) (by omega)
    rw [show 3680 * s + (10 + 4 * i) = 3680 * s + (10 + 4 * i + 0) from rfl, show 3680 * s + (10 + 4 * i + 0) + 1 = 3680 * s + (10 + 4 * i + 1) by omega, p1, bnd_t]
    obtain ⟨t2, q1, q2, q3⟩ := r_exch (κ := κ) (rt := t1) (q := q) hs (j1 := 10 + 4 * i + 2) (j2 := 10 + 4 * i + 3) (by omega) (by omega) (by omega) (by omega)
    rw [show 3680 * s + (10 + 4 * i + 0) + 2 = 3680 * s + (10 + 4 * i + 2) by omega, show 3680 * s + (10 + 4 * i + 0) + 3 = 3680 * s + (10 + 4 * i + 3) by omega, q1, bnd_t]
    refine ih t2 ⟨?_, (g2.tr p3).tr q3⟩
    rw [q2, p2, g1, at_ 0 (by decide), at_ 1 (by decide), setF_at (by omega), setF_at (by omega), at_ 3 (by decide), setF_at (by omega), setF_at (by omega), at_ 2 (by decide)]
    exact turnF_step S i
theorem r_turnR {rt : AS} {q s : Nat} {S : Nat → Int32} (hs : s < 7) (h : rw_ rt q s = S) (h7 : S 7 = nI (nR S)) (hR : nR S ≤ 400) (hw : ∀ r, r < nR S → isN (S (810 + 7 * r + 0)) 0 1) : ∃ rt', L_R_turns_68 κ FU q (nI s) 0 rt = some rt' ∧ rw_ rt' q s = turnR S (nR S) ∧ FrR q s rt rt' := by
  have t0 : turnR S 0 = S := by funext k; unfold turnR; rw [if_neg (by omega)]
  refine lk1 (fun d t i => L_R_turns_68 κ d q (nI s) i t) (fun z => ∃ rt', z = some rt' ∧ rw_ rt' q s = turnR S (nR S) ∧ FrR q s rt rt') (fun i t => rw_ t q s = turnR S i ∧ FrR q s rt t) (n := nR S) ?_ ?_ (nR S) 0 FU rt (by omega) (FUn (by omega)) ⟨by rw [t0]; exact h, FrR.rf _ _ _⟩
  · rintro d t ⟨g1, g2⟩
    have e7 : rw_ t q s 7 = nI (nR S) := by rw [g1, turnR_at (Or.inl (by omega))]; exact h7
    rw [L_R_turns_68, r_sheet hs (k := 7) (y := 7) (by decide) rfl, bnd_t, e7, if_pos (nI_le (Nat.le_refl _) (by omega))]
    exact ⟨t, rfl, g1, g2⟩
  · rintro d t i hi ⟨g1, g2⟩ ih
    have e7 : rw_ t q s 7 = nI (nR S) := by rw [g1, turnR_at (Or.inl (by omega))]; exact h7
    have at_ : turnR S i (810 + 7 * i + 0) = S (810 + 7 * i + 0) := turnR_at (Or.inr (by omega))
    have ev : (1 : Int32) - S (810 + 7 * i + 0) = if S (810 + 7 * i + 0) = 0 then 1 else 0 := by
      obtain ⟨n, hn, -, h1⟩ := hw i hi
      rw [hn]
      have hc : n = 0 ∨ n = 1 := by omega
      rcases hc with rfl | rfl <;> rfl
    rw [L_R_turns_68, r_sheet hs (k := 7) (y := 7) (by decide) rfl, bnd_t, e7, if_neg (nI_ge hi (by omega)), r_ridge hs (y := 0) (p := 0) (by omega) (by decide) rfl, bnd_t, ixR0, grd_t (vp_in_nI (by omega) (by decide)), nI_clamp (by omega), g1, at_, ev, nI_1]
    refine ih _ ⟨?_, g2.ui (j := 810 + 7 * i + 0) ⟨by omega, by omega⟩⟩
    rw [show 3680 * s + (810 + 7 * i) = 3680 * s + (810 + 7 * i + 0) from rfl, rw_ui, g1]
    exact turnR_step S i
end RTurn
