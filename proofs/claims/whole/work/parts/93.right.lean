/-! what puts loose ends right: both classes -/
noncomputable def rigK : Int32 → Int32 → Int32 → AS → Option (Int32 × AS) := fun v38 v39 v40 s41 => some ((if v38 = 0 then v39 else v40 : Int32), s41)
noncomputable def rigL (κ : Ko) (d : Nat) : Nat → Int32 → Int32 → Int32 → Int32 → Int32 → Int32 → Int32 → AS → Option (Int32 × AS) := fun v23 v25 v26 v27 v28 v29 v30 v31 s32 => L_R_right_54 κ rigK d v23 v25 v26 v27 (if v31 = 0 then v28 else (v28 + 1) : Int32) (if v31 = 0 then v29 else (if 0 ≤ v29 then v29 else v30 : Int32) : Int32) (v30 + 1) s32
theorem right54_e (κ : Ko) (d q : Nat) (x2 x3 x4 x5 x6 x7 : Int32) (st : AS) : L_R_right_54 κ rigK (d + 1) q x2 x3 x4 x5 x6 x7 st = if x4 ≤ x7 then rigK x3 x5 x6 st else L_R_right_67 κ (rigL κ d) FU q x2 x3 x4 x5 x6 x7 0 0 st := rfl
section Right
variable {κ : Ko} {dt rt : AS} {a q s r Z : Nat}
theorem q_puts (h : LK κ dt rt a q s Z) (hr : r < nR (rw_ rt q s)) (k : Nat → Int32 → Int32 → Int32 → Int32 → Int32 → Int32 → Int32 → AS → Option (Int32 × AS)) (x3 x5 x6 : Int32) : ∃ v, (v = 0 ∨ v = 1) ∧ f_Si_putsRight κ Z (nI r) dt = some v ∧ L_R_right_67 κ k FU q (nI s) x3 (nI (nR (rw_ rt q s))) x5 x6 (nI r) 0 0 rt = k q (nI s) x3 (nI (nR (rw_ rt q s))) x5 x6 (nI r) v rt := by
  have hn := h.1.nr
  unfold f_Si_putsRight
  rw [q_isSeen h hr]
  by_cases h0 : gi rt (q + 15) r = 0
  · rw [if_pos h0]
    exact q_putsL h hr h0 k x3 x5 x6 (nR (rw_ rt q s)) 0 FU FU (by omega) (FUn (by omega)) (FUn (by omega))
  · rw [if_neg h0]
    refine ⟨0, Or.inl rfl, rfl, ?_⟩
    obtain ⟨d, hd⟩ := FUd
    rw [hd, L_R_right_67, grd_t (vp_in_nI (by omega) (by decide)), nI_clamp (by omega), if_neg h0, ite_self]
theorem q_right0 (h : LK κ dt rt a q s Z) : ∀ n i d d' x y, i + n = nR (rw_ rt q s) → n < d → n < d' → ∃ v, L_Si_rightRidges_4 κ dt d Z x (nI i) = some v ∧ L_R_right_54 κ rigK d' q (nI s) 0 (nI (nR (rw_ rt q s))) x y (nI i) rt = some (v, rt)
  | 0, i, d, d', x, y, hi, hd, hd' => by
    obtain ⟨d, rfl⟩ : ∃ z, d = z + 1 := ⟨d - 1, by omega⟩
    obtain ⟨d', rfl⟩ : ∃ z, d' = z + 1 := ⟨d' - 1, by omega⟩
    have hn := h.1.nr
    rw [L_Si_rightRidges_4, right54_e, h.2.1, if_pos (nI_le (by omega) (by omega)), if_pos (nI_le (by omega) (by omega))]
    exact ⟨x, rfl, rfl⟩
  | n + 1, i, d, d', x, y, hi, hd, hd' => by
    obtain ⟨d, rfl⟩ : ∃ z, d = z + 1 := ⟨d - 1, by omega⟩
    obtain ⟨d', rfl⟩ : ∃ z, d' = z + 1 := ⟨d' - 1, by omega⟩
    have hn := h.1.nr
    have hi' : i < nR (rw_ rt q s) := by omega
    obtain ⟨v, hv, a1, b1⟩ := q_puts h hi' (rigL κ d') 0 x y
    have ih := fun x' y' => q_right0 h n (i + 1) d d' x' y' (by omega) (by omega) (by omega)
    rw [L_Si_rightRidges_4, right54_e, h.2.1, if_neg (nI_ge hi' (by omega)), if_neg (nI_ge hi' (by omega)), a1, bnd_t, b1, nI_1]
    unfold rigL
    rw [nI_1, Int32.add_zero]
    exact ih _ _
theorem q_right1 (h : LK κ dt rt a q s Z) {z : Int32} (hz : z ≠ 0) : ∀ n i d d' x y, i + n = nR (rw_ rt q s) → n < d → n < d' → (y = -2 ∨ 0 ≤ y) → ∃ v, (if 0 ≤ y then some y else L_Si_firstRight_2 κ dt d Z (nI i)) = some v ∧ L_R_right_54 κ rigK d' q (nI s) z (nI (nR (rw_ rt q s))) x y (nI i) rt = some (v, rt)
  | 0, i, d, d', x, y, hi, hd, hd', hy => by
    obtain ⟨d, rfl⟩ : ∃ z, d = z + 1 := ⟨d - 1, by omega⟩
    obtain ⟨d', rfl⟩ : ∃ z, d' = z + 1 := ⟨d' - 1, by omega⟩
    have hn := h.1.nr
    rw [L_Si_firstRight_2, right54_e, h.2.1, if_pos (nI_le (by omega) (by omega)), if_pos (nI_le (by omega) (by omega))]
    unfold rigK
    rw [if_neg hz]
    refine ⟨y, ?_, rfl⟩
    rcases hy with rfl | hy
    · rw [if_neg (show ¬ (0 : Int32) ≤ -2 by decide)]
    · rw [if_pos hy]
  | n + 1, i, d, d', x, y, hi, hd, hd', hy => by
    obtain ⟨d, rfl⟩ : ∃ z, d = z + 1 := ⟨d - 1, by omega⟩
    obtain ⟨d', rfl⟩ : ∃ z, d' = z + 1 := ⟨d' - 1, by omega⟩
    have hn := h.1.nr
    have hi' : i < nR (rw_ rt q s) := by omega
    obtain ⟨v, hv, a1, b1⟩ := q_puts h hi' (rigL κ d') z x y
    have ih := fun x' y' hy' => q_right1 h hz n (i + 1) d d' x' y' (by omega) (by omega) (by omega) hy'
    rw [L_Si_firstRight_2, right54_e, h.2.1, if_neg (nI_ge hi' (by omega)), if_neg (nI_ge hi' (by omega)), a1, bnd_t, b1, nI_1]
    unfold rigL
    rw [nI_1]
    rcases hv with rfl | rfl
    · rw [if_pos rfl, if_pos rfl]
      exact ih _ _ hy
    · rw [if_neg (show ¬ (1 : Int32) = 0 by decide), if_neg (show ¬ (1 : Int32) = 0 by decide)]
      rcases hy with rfl | hy
      · rw [if_neg (show ¬ (0 : Int32) ≤ -2 by decide), if_neg (show ¬ (0 : Int32) ≤ -2 by decide)]
        have := ih (x + 1) (nI i) (Or.inr (nI_ge0 (by omega)))
        rw [if_pos (nI_ge0 (by omega))] at this
        exact this
      · rw [if_pos hy, if_pos hy]
        have := ih (x + 1) y (Or.inr hy)
        rw [if_pos hy] at this
        exact this
theorem q_rightN (h : LK κ dt rt a q s Z) : ∃ v, f_Si_rightRidges κ Z dt = some v ∧ L_R_right_54 κ rigK FU q (nI s) 0 (nI (nR (rw_ rt q s))) 0 (-2) 0 rt = some (v, rt) :=
  q_right0 h (nR (rw_ rt q s)) 0 FU FU 0 (-2) (by omega) (FUn (by have := h.1.nr; omega)) (FUn (by have := h.1.nr; omega))
theorem q_rightF (h : LK κ dt rt a q s Z) {z : Int32} (hz : z ≠ 0) : ∃ v, f_Si_firstRight κ Z dt = some v ∧ L_R_right_54 κ rigK FU q (nI s) z (nI (nR (rw_ rt q s))) 0 (-2) 0 rt = some (v, rt) := by
  obtain ⟨v, h1, h2⟩ := q_right1 h hz (nR (rw_ rt q s)) 0 FU FU 0 (-2) (by omega) (FUn (by have := h.1.nr; omega)) (FUn (by have := h.1.nr; omega)) (Or.inl rfl)
  rw [if_neg (show ¬ (0 : Int32) ≤ -2 by decide)] at h1
  exact ⟨v, h1, h2⟩
end Right
