/-! the other side up -/
def turnF (S : Nat → Int32) (i : Nat) : Nat → Int32 := fun k => if k = 0 then S 1 else if k = 1 then S 0 else if 10 ≤ k ∧ k < 10 + 4 * i then (if (k - 10) % 2 = 0 then S (k + 1) else S (k - 1)) else S k
theorem turnF_at {S : Nat → Int32} {i k : Nat} (h1 : 1 < k) (h : k < 10 ∨ 10 + 4 * i ≤ k) : turnF S i k = S k := by
  unfold turnF
  rw [if_neg (by omega), if_neg (by omega), if_neg (by omega)]
theorem turnF_step (S : Nat → Int32) (i : Nat) : setS (setS (setS (setS (turnF S i) (10 + 4 * i + 0) (S (10 + 4 * i + 1))) (10 + 4 * i + 1) (S (10 + 4 * i + 0))) (10 + 4 * i + 2) (S (10 + 4 * i + 3))) (10 + 4 * i + 3) (S (10 + 4 * i + 2)) = turnF S (i + 1) := by
  funext k
  by_cases h3 : k = 10 + 4 * i + 3
  · subst h3
    unfold setS turnF
    rw [if_pos rfl, if_neg (by omega), if_neg (by omega), if_pos (by omega), if_neg (by omega)]
    rfl
  · by_cases h2 : k = 10 + 4 * i + 2
    · subst h2
      unfold setS turnF
      rw [if_neg (by omega), if_pos rfl, if_neg (by omega), if_neg (by omega), if_pos (by omega), if_pos (by omega)]
    · by_cases h1 : k = 10 + 4 * i + 1
      · subst h1
        unfold setS turnF
        rw [if_neg (by omega), if_neg (by omega), if_pos rfl, if_neg (by omega), if_neg (by omega), if_pos (by omega), if_neg (by omega)]
        rfl
      · by_cases h0 : k = 10 + 4 * i + 0
        · subst h0
          unfold setS turnF
          rw [if_neg (by omega), if_neg (by omega), if_neg (by omega), if_pos rfl, if_neg (by omega), if_neg (by omega), if_pos (by omega), if_pos (by omega)]
        · unfold setS turnF
          rw [if_neg h3, if_neg h2, if_neg h1, if_neg h0]
          by_cases e0 : k = 0
          · rw [if_pos e0, if_pos e0]
          · rw [if_neg e0, if_neg e0]
            by_cases e1 : k = 1
            · rw [if_pos e1, if_pos e1]
            · rw [if_neg e1, if_neg e1]
              by_cases e2 : 10 ≤ k ∧ k < 10 + 4 * i
              · rw [if_pos e2, if_pos (show 10 ≤ k ∧ k < 10 + 4 * (i + 1) by omega)]
              · rw [if_neg e2, if_neg (show ¬ (10 ≤ k ∧ k < 10 + 4 * (i + 1)) by omega)]
section Turn
variable {κ : Ko}
theorem rdF {dt : AS} {a : Nat} {S : Nat → Int32} (h : ShD κ dt a S) (hF : nF S ≤ 200) {f u : Nat} {y : Int32} (hf : f < nF S) (hu : u < 4) (hy : y = nI u) : f_Sh_facetPart κ a (nI f) y dt = some (S (10 + 4 * f + u)) := by
  rw [f_Sh_facetPart_eq, hy, ix4, gat_n rfl (by omega) (by decide)]
  exact congrArg some (h.2.2.2.1 f hf u hu)
theorem nF_setF {S : Nat → Int32} {f p : Nat} {v : Int32} : nF (setS S (10 + 4 * f + p) v) = nF S := by unfold nF; rw [setF_at (by omega)]
theorem d_turnF {dt : AS} {a : Nat} {S : Nat → Int32} (h : ShD κ dt a (turnF S 0)) (h6 : S 6 = nI (nF S)) (hF : nF S ≤ 200) (k : Nat → AS → Option AS) : ∃ dt', L_Sh_changeSides_20 κ k FU a 0 dt = k a dt' ∧ ShD κ dt' a (turnF S (nF S)) ∧ Same (shW κ a) dt dt' := by
  have nFt : ∀ i, nF (turnF S i) = nF S := fun i => by unfold nF; rw [turnF_at (by decide) (Or.inl (by decide))]
  refine lk1 (fun d t i => L_Sh_changeSides_20 κ k d a i t) (fun z => ∃ dt', z = k a dt' ∧ ShD κ dt' a (turnF S (nF S)) ∧ Same (shW κ a) dt dt') (fun i t => ShD κ t a (turnF S i) ∧ Same (shW κ a) dt t) (n := nF S) ?_ ?_ (nF S) 0 FU dt (by omega) (FUn (by omega)) ⟨h, Same.rf _ _⟩
  · rintro d t ⟨g1, g2⟩
    have h11 : gi t a 11 = nI (nF S) := by rw [g1.2.1.2.2.2.2.2.1, turnF_at (by decide) (Or.inl (by decide))]; exact h6
    rw [L_Sh_changeSides_20, h11, if_pos (nI_le (Nat.le_refl _) (by omega))]
    exact ⟨t, rfl, g1, g2⟩
  · rintro d t i hi ⟨g1, g2⟩ ih
    have h11 : gi t a 11 = nI (nF S) := by rw [g1.2.1.2.2.2.2.2.1, turnF_at (by decide) (Or.inl (by decide))]; exact h6
    have hi0 : i < nF (turnF S i) := by rw [nFt]; exact hi
    have hF0 : nF (turnF S i) ≤ 200 := by rw [nFt]; exact hF
    have at_ : ∀ u, u < 4 → turnF S i (10 + 4 * i + u) = S (10 + 4 * i + u) := fun u hu => turnF_at (by omega) (Or.inr (by omega))
    rw [L_Sh_changeSides_20, h11, if_neg (nI_ge hi (by omega)), rdF g1 hF0 hi0 (u := 0) (y := 0) (by decide) rfl, bnd_t, rdF g1 hF0 hi0 (u := 2) (y := 2) (by decide) rfl, bnd_t, rdF g1 hF0 hi0 (u := 1) (y := 1) (by decide) rfl, bnd_t, at_ 0 (by decide), at_ 1 (by decide), at_ 2 (by decide)]
    rw [d_putF t (y := 0) (p := 0) rfl (by omega) (by decide), bnd_t, d_putF _ (y := 1) (p := 1) rfl (by omega) (by decide), bnd_t]
    have s1 := setF_sh (f := i) (p := 0) (v := S (10 + 4 * i + 1)) g1 (by omega) (by decide)
    have s2 := setF_sh (f := i) (p := 1) (v := S (10 + 4 * i + 0)) s1 (by omega) (by decide)
    have e3 : setS (setS (turnF S i) (10 + 4 * i + 0) (S (10 + 4 * i + 1))) (10 + 4 * i + 1) (S (10 + 4 * i + 0)) (10 + 4 * i + 3) = S (10 + 4 * i + 3) := by
      rw [setF_at (by omega), setF_at (by omega), at_ 3 (by decide)]
    rw [rdF s2 (by rw [nF_setF, nF_setF]; exact hF0) (by rw [nF_setF, nF_setF]; exact hi0) (u := 3) (y := 3) (by decide) rfl, bnd_t, e3, d_putF _ (y := 2) (p := 2) rfl (by omega) (by decide), bnd_t, d_putF _ (y := 3) (p := 3) rfl (by omega) (by decide), bnd_t, nI_1]
    have s3 := setF_sh (f := i) (p := 2) (v := S (10 + 4 * i + 3)) s2 (by omega) (by decide)
    have s4 := setF_sh (f := i) (p := 3) (v := S (10 + 4 * i + 2)) s3 (by omega) (by decide)
    rw [turnF_step] at s4
    exact ih _ ⟨s4, (((g2.tr setF_same).tr setF_same).tr setF_same).tr setF_same⟩
end Turn
