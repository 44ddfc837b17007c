/-! one more pressing over each ridge -/
def usedS (S : Nat → Int32) (i : Nat) : Nat → Int32 := fun k => if 810 ≤ k ∧ k < 810 + 7 * i ∧ (k - 810) % 7 = 6 then S k + 1 else S k
theorem usedS_at {S : Nat → Int32} {i k : Nat} (h : k < 810 ∨ 810 + 7 * i ≤ k) : usedS S i k = S k := by
  unfold usedS
  rw [if_neg (by omega)]
theorem usedS_step (S : Nat → Int32) (i : Nat) : setS (usedS S i) (810 + 7 * i + 6) (S (810 + 7 * i + 6) + 1) = usedS S (i + 1) := by
  funext k
  unfold setS usedS
  by_cases h : k = 810 + 7 * i + 6
  · subst h
    rw [if_pos rfl, if_pos (show 810 ≤ 810 + 7 * i + 6 ∧ 810 + 7 * i + 6 < 810 + 7 * (i + 1) ∧ (810 + 7 * i + 6 - 810) % 7 = 6 by omega)]
  · rw [if_neg h]
    by_cases e : 810 ≤ k ∧ k < 810 + 7 * i ∧ (k - 810) % 7 = 6
    · rw [if_pos e, if_pos (show 810 ≤ k ∧ k < 810 + 7 * (i + 1) ∧ (k - 810) % 7 = 6 by omega)]
    · rw [if_neg e, if_neg (show ¬ (810 ≤ k ∧ k < 810 + 7 * (i + 1) ∧ (k - 810) % 7 = 6) by omega)]
section Used
variable {κ : Ko} {dt rt : AS} {a q s : Nat} {S : Nat → Int32}
theorem d_used (h : ShD κ dt a S) (h7 : S 7 = nI (nR S)) (hR : nR S ≤ 400) (hF : nF S ≤ 200) (x y : Int32) (k : Nat → Int32 → Int32 → AS → Option (Int32 × AS)) : ∃ dt', L_Sh_crush_31 κ k FU a x y 0 dt = k a x y dt' ∧ ShD κ dt' a (usedS S (nR S)) ∧ Same (shW κ a) dt dt' := by
  have nRt : ∀ i, nR (usedS S i) = nR S := fun i => by unfold nR; rw [usedS_at (Or.inl (by omega))]
  have nFt : ∀ i, nF (usedS S i) = nF S := fun i => by unfold nF; rw [usedS_at (Or.inl (by omega))]
  have t0 : usedS S 0 = S := by funext k; unfold usedS; rw [if_neg (by omega)]
  refine lk1 (fun d t i => L_Sh_crush_31 κ k d a x y i t) (fun z => ∃ dt', z = k a x y dt' ∧ ShD κ dt' a (usedS S (nR S)) ∧ Same (shW κ a) dt dt') (fun i t => ShD κ t a (usedS S i) ∧ Same (shW κ a) dt t) (n := nR S) ?_ ?_ (nR S) 0 FU dt (by omega) (FUn (by omega)) ⟨by rw [t0]; exact h, Same.rf _ _⟩
  · rintro d t ⟨g1, g2⟩
    have h12 : gi t a 12 = nI (nR S) := by rw [g1.2.1.2.2.2.2.2.2.1, usedS_at (Or.inl (by omega))]; exact h7
    rw [L_Sh_crush_31, h12, if_pos (nI_le (Nat.le_refl _) (by omega))]
    exact ⟨t, rfl, g1, g2⟩
  · rintro d t i hi ⟨g1, g2⟩ ih
    have h12 : gi t a 12 = nI (nR S) := by rw [g1.2.1.2.2.2.2.2.2.1, usedS_at (Or.inl (by omega))]; exact h7
    have at_ : usedS S i (810 + 7 * i + 6) = S (810 + 7 * i + 6) := usedS_at (Or.inr (by omega))
    rw [L_Sh_crush_31, h12, if_neg (nI_ge hi (by omega)), rdR g1 (by rw [nRt]; exact hR) (by rw [nRt]; exact hi) (u := 6) (y := 6) (by decide) rfl, bnd_t, at_, d_putR t (y := 6) (p := 6) rfl (by omega) (by decide), bnd_t, nI_1]
    have s1 := setR_sh (r := i) (p := 6) (v := S (810 + 7 * i + 6) + 1) g1 (by rw [nFt]; exact hF) (by omega) (by decide)
    rw [usedS_step] at s1
    exact ih _ ⟨s1, g2.tr setR_same⟩
theorem r_used (hs : s < 7) (h : rw_ rt q s = S) (h7 : S 7 = nI (nR S)) (hR : nR S ≤ 400) (x y : Int32) (k : Nat → Int32 → Int32 → Int32 → AS → Option (Int32 × AS)) : ∃ rt', L_R_presses_56 κ k FU q (nI s) x y 0 rt = k q (nI s) x y rt' ∧ rw_ rt' q s = usedS S (nR S) ∧ FrR q s rt rt' := by
  have t0 : usedS S 0 = S := by funext k; unfold usedS; rw [if_neg (by omega)]
  refine lk1 (fun d t i => L_R_presses_56 κ k d q (nI s) x y i t) (fun z => ∃ rt', z = k q (nI s) x y rt' ∧ rw_ rt' q s = usedS S (nR S) ∧ FrR q s rt rt') (fun i t => rw_ t q s = usedS S i ∧ FrR q s rt t) (n := nR S) ?_ ?_ (nR S) 0 FU rt (by omega) (FUn (by omega)) ⟨by rw [t0]; exact h, FrR.rf _ _ _⟩
  · rintro d t ⟨g1, g2⟩
    have e7 : rw_ t q s 7 = nI (nR S) := by rw [g1, usedS_at (Or.inl (by omega))]; exact h7
    rw [L_R_presses_56, r_sheet hs (k := 7) (y := 7) (by decide) rfl, bnd_t, e7, if_pos (nI_le (Nat.le_refl _) (by omega))]
    exact ⟨t, rfl, g1, g2⟩
  · rintro d t i hi ⟨g1, g2⟩ ih
    have e7 : rw_ t q s 7 = nI (nR S) := by rw [g1, usedS_at (Or.inl (by omega))]; exact h7
    have at_ : usedS S i (810 + 7 * i + 6) = S (810 + 7 * i + 6) := usedS_at (Or.inr (by omega))
    rw [L_R_presses_56, r_sheet hs (k := 7) (y := 7) (by decide) rfl, bnd_t, e7, if_neg (nI_ge hi (by omega)), show (6 : Int32) = nI 6 from rfl, ixR, grd_t (vp_in_nI (by omega) (by decide)), grd_t (vp_in_nI (by omega) (by decide)), nI_clamp (by omega), giS, g1, at_, nI_1]
    refine ih _ ⟨?_, g2.ui (j := 810 + 7 * i + 6) ⟨by omega, by omega⟩⟩
    rw [rw_ui, g1]
    exact usedS_step S i
end Used
