/-! what is seen: both classes -/
section Sight
variable {κ : Ko} {dt rt : AS} {a q s r t A Z : Nat} {L : List (Nat × Nat)} {K : List c4}
theorem q_look {k : Nat} (h : SR κ dt a rt q s) (hk6 : k < 6) (hZ : Z + 2 < a ∨ a + 3 < Z) (hA : a + 3 < A ∧ Z + 2 < A) (hD : RULR dt rt A q (12 + k)) :
    ∃ dt2 rt2, f_Si_look κ Z A a dt = some dt2 ∧ f_R_sees κ q (nI k) (nI s) rt = some rt2 ∧ LKI κ dt rt a q s Z A (nR (rw_ rt q s)) dt2 rt2 := by
  obtain ⟨L, K, c1, c2, c3, c4, c5, c6, c7⟩ := hD
  have hn := h.nr
  have w0 : Same (fun p _ => lkW Z A p) dt (ui (ur dt Z 2 (some a)) Z 3 (nI (nR (rw_ rt q s)))) := ((Same.rf _ dt).ur (Or.inl rfl)).ui (Or.inl rfl)
  have hSh : ShD κ (ui (ur dt Z 2 (some a)) Z 3 (nI (nR (rw_ rt q s)))) a (rw_ rt q s) := h.1.fr w0 (fun p j h1 h2 z => by unfold lkW at z; omega)
  have e3 : f_Sh_ridgeCount κ a (ur dt Z 2 (some a)) = nI (nR (rw_ rt q s)) := by
    show gi dt a 12 = _
    exact d_nr h
  obtain ⟨d2, r2, z1, z2, z3⟩ := q_lookL (κ := κ) (t := 12 + k) (rt := rt) (s := s) (a := a) (dt := dt) (by omega) hZ hA ⟨c6, c7⟩ c5 (L := L) (K := K) ⟨c1, c3⟩ ⟨c2, c4⟩ (nR (rw_ rt q s)) 0 FU FU (ui (ur dt Z 2 (some a)) Z 3 (nI (nR (rw_ rt q s)))) rt (by omega) (FUn (by omega)) (FUn (by omega)) ⟨⟨hSh, h.2.1, h.2.2⟩, by rw [gi_ui, if_pos ⟨rfl, rfl⟩], by rw [gr_ui', gr_ur, if_pos ⟨rfl, rfl⟩], fun r hr => absurd hr (Nat.not_lt_zero _), w0, Same.rf _ _⟩
  refine ⟨d2, r2, ?_, ?_, z3⟩
  · unfold f_Si_look
    rw [e3]
    exact z1
  · unfold f_R_sees
    rw [show (12 : Int32) = nI 12 from rfl, nI_add]
    exact z2
/-- seen and told alike -/
def LK (κ : Ko) (dt rt : AS) (a q s Z : Nat) : Prop := SR κ dt a rt q s ∧ gi dt Z 3 = nI (nR (rw_ rt q s)) ∧ gr dt Z 2 = some a ∧ ∀ r, r < nR (rw_ rt q s) → gi dt (Z + 1) r = gi rt (q + 15) r ∧ (gi rt (q + 15) r = 0 ∨ gi rt (q + 15) r = 1)
theorem LKI.lk {dt0 rt0 : AS} (h : LKI κ dt0 rt0 a q s Z A (nR (rw_ rt0 q s)) dt rt) : LK κ dt rt a q s Z := by
  have hrow : rw_ rt q s = rw_ rt0 q s := rw_fr rfl h.2.2.2.2.2 (fun j z => by unfold lkQ rkW at z; omega)
  exact ⟨h.1, h.2.1, h.2.2.1, by rw [hrow]; exact h.2.2.2.1⟩
theorem q_isSeen (h : LK κ dt rt a q s Z) (hr : r < nR (rw_ rt q s)) : f_Si_isSeen κ Z (nI r) dt = gi rt (q + 15) r := by
  have hn := h.1.nr.2
  obtain ⟨e1, e2⟩ := h.2.2.2 r hr
  unfold f_Si_isSeen
  rw [gat_n (j := r) rfl (by omega) (by decide), e1]
  rcases e2 with e2 | e2 <;> rw [e2]
  · rfl
  · rfl
theorem q_looseL (h : LK κ dt rt a q s Z) {e : Nat} (hr : r < nR (rw_ rt q s)) (he : e < 2) : ∀ n i d d', i + n = nR (rw_ rt q s) → n < d → n < d' → Both (L_Si_isLoose_24 κ dt d Z (nI r) (nI (2 + e)) (nI i)) (L_R_isLoose_24 κ rt d' q (nI s) (nI r) (nI e) (nI i))
  | 0, i, d, d', hi, hd, hd' => by
    obtain ⟨d, rfl⟩ : ∃ z, d = z + 1 := ⟨d - 1, by omega⟩
    obtain ⟨d', rfl⟩ : ∃ z, d' = z + 1 := ⟨d' - 1, by omega⟩
    have hn := h.1.nr
    rw [L_Si_isLoose_24, L_R_isLoose_24, h.2.1, if_pos (nI_le (by omega) (by omega)), rs7 h.1, bnd_t, hn.1, if_pos (nI_le (by omega) (by omega))]
    exact Both.mk _
  | n + 1, i, d, d', hi, hd, hd' => by
    obtain ⟨d, rfl⟩ : ∃ z, d = z + 1 := ⟨d - 1, by omega⟩
    obtain ⟨d', rfl⟩ : ∃ z, d' = z + 1 := ⟨d' - 1, by omega⟩
    have hn := h.1.nr
    have hi' : i < nR (rw_ rt q s) := by omega
    obtain ⟨v, t1, t2⟩ := q_through h.1 hi' hr he
    have ih := q_looseL h hr he n (i + 1) d d' (by omega) (by omega) (by omega)
    rw [L_Si_isLoose_24, L_R_isLoose_24, h.2.1, if_neg (nI_ge hi' (by omega)), rs7 h.1, bnd_t, hn.1, if_neg (nI_ge hi' (by omega)), q_isSeen h hi']
    simp only [jn_e]
    rw [h.2.2.1, bnd_t, grd_t h.1.1.1, t1, bnd_t, t2, bnd_t, grd_t (vp_in_nI (by omega) (by decide)), nI_clamp (by omega), nI_1]
    by_cases h0 : gi rt (q + 15) i = 0
    · rw [if_pos h0, if_pos h0]; exact ih
    · rw [if_neg h0, if_neg h0]
      by_cases hv : v = 0
      · rw [if_pos hv, if_pos hv]; exact ih
      · rw [if_neg hv, if_neg hv]; exact Both.mk _
theorem q_loose (h : LK κ dt rt a q s Z) {e : Nat} (hr : r < nR (rw_ rt q s)) (he : e < 2) : Both (f_Si_isLoose κ Z (nI r) (nI (2 + e)) dt) (f_R_isLoose κ q (nI s) (nI r) (nI e) rt) := by
  have hn := h.1.nr
  obtain ⟨v, t1, t2⟩ := q_edgeEnd h.1 hr he
  unfold f_Si_isLoose f_R_isLoose
  simp only [jn_e]
  rw [q_isSeen h hr, h.2.2.1, bnd_t, grd_t h.1.1.1, t1, bnd_t, t2, bnd_t, grd_t (vp_in_nI (by omega) (by decide)), nI_clamp (by omega)]
  by_cases h0 : gi rt (q + 15) r = 0
  · rw [if_pos h0, if_pos h0]; exact Both.mk _
  · rw [if_neg h0, if_neg h0]
    by_cases hv : v = 0
    · rw [if_pos hv, if_pos hv]
      exact q_looseL h hr he (nR (rw_ rt q s)) 0 FU FU (by omega) (FUn (by omega)) (FUn (by omega))
    · rw [if_neg hv, if_neg hv]; exact Both.mk _
theorem q_seenLong (h : LK κ dt rt a q s Z) : ∀ n i d d' x, i + n = nR (rw_ rt q s) → n < d → n < d' → Both (L_Si_seenLength_4 κ dt d Z x (nI i)) (L_R_seenLong_4 κ rt d' q (nI s) x (nI i))
  | 0, i, d, d', x, hi, hd, hd' => by
    obtain ⟨d, rfl⟩ : ∃ z, d = z + 1 := ⟨d - 1, by omega⟩
    obtain ⟨d', rfl⟩ : ∃ z, d' = z + 1 := ⟨d' - 1, by omega⟩
    have hn := h.1.nr
    rw [L_Si_seenLength_4, L_R_seenLong_4, h.2.1, if_pos (nI_le (by omega) (by omega)), rs7 h.1, bnd_t, hn.1, if_pos (nI_le (by omega) (by omega))]
    exact Both.mk _
  | n + 1, i, d, d', x, hi, hd, hd' => by
    obtain ⟨d, rfl⟩ : ∃ z, d = z + 1 := ⟨d - 1, by omega⟩
    obtain ⟨d', rfl⟩ : ∃ z, d' = z + 1 := ⟨d' - 1, by omega⟩
    have hn := h.1.nr
    have hi' : i < nR (rw_ rt q s) := by omega
    have ih := fun y => q_seenLong h n (i + 1) d d' y (by omega) (by omega) (by omega)
    rw [L_Si_seenLength_4, L_R_seenLong_4, h.2.1, if_neg (nI_ge hi' (by omega)), rs7 h.1, bnd_t, hn.1, if_neg (nI_ge hi' (by omega)), q_isSeen h hi', h.2.2.1, bnd_t, grd_t h.1.1.1, d_len h.1 hi', bnd_t, r_len h.1 hi', bnd_t, grd_t (vp_in_nI (by omega) (by decide)), nI_clamp (by omega), nI_1]
    by_cases h0 : gi rt (q + 15) i = 0
    · rw [if_pos h0, if_pos h0]; exact ih _
    · rw [if_neg h0, if_neg h0]; exact ih _
theorem q_seenL (h : LK κ dt rt a q s Z) : Both (f_Si_seenLength κ Z dt) (f_R_seenLong κ q (nI s) rt) :=
  q_seenLong h (nR (rw_ rt q s)) 0 FU FU 0 (by omega) (FUn (by have := h.1.nr; omega)) (FUn (by have := h.1.nr; omega))
noncomputable def seenK (κ : Ko) : Nat → Int32 → Int32 → Int32 → AS → Option (Int32 × AS) := fun v19 v21 v22 v23 s24 => if v22 = 1 then bnd (f_R_seenLong κ v19 v21 s24) (fun v25 => some (v25, s24)) else some (v23, s24)
theorem q_seen0 (h : LK κ dt rt a q s Z) : ∀ n i d d' x, i + n = nR (rw_ rt q s) → n < d → n < d' → ∃ v, L_Si_seenRidges_4 κ dt d Z x (nI i) = some v ∧ L_R_seen_43 κ (seenK κ) d' q (nI s) 0 x (nI i) rt = some (v, rt)
  | 0, i, d, d', x, hi, hd, hd' => by
    obtain ⟨d, rfl⟩ : ∃ z, d = z + 1 := ⟨d - 1, by omega⟩
    obtain ⟨d', rfl⟩ : ∃ z, d' = z + 1 := ⟨d' - 1, by omega⟩
    have hn := h.1.nr
    rw [L_Si_seenRidges_4, L_R_seen_43, h.2.1, if_pos (nI_le (by omega) (by omega)), rs7 h.1, bnd_t, hn.1, if_pos (nI_le (by omega) (by omega))]
    exact ⟨x, rfl, rfl⟩
  | n + 1, i, d, d', x, hi, hd, hd' => by
    obtain ⟨d, rfl⟩ : ∃ z, d = z + 1 := ⟨d - 1, by omega⟩
    obtain ⟨d', rfl⟩ : ∃ z, d' = z + 1 := ⟨d' - 1, by omega⟩
    have hn := h.1.nr
    have hi' : i < nR (rw_ rt q s) := by omega
    have ih := fun y => q_seen0 h n (i + 1) d d' y (by omega) (by omega) (by omega)
    rw [L_Si_seenRidges_4, L_R_seen_43, h.2.1, if_neg (nI_ge hi' (by omega)), rs7 h.1, bnd_t, hn.1, if_neg (nI_ge hi' (by omega)), q_isSeen h hi', if_pos rfl, grd_t (vp_in_nI (by omega) (by decide)), nI_clamp (by omega), nI_1]
    by_cases h0 : gi rt (q + 15) i = 0
    · rw [if_pos h0, if_pos h0]; exact ih _
    · rw [if_neg h0, if_neg h0]; exact ih _
theorem q_seen2 (h : LK κ dt rt a q s Z) {y : Int32} (hy : y ≠ 0) : ∀ n i d d' x, i + n = nR (rw_ rt q s) → n < d → n < d' → ∃ v, L_Si_looseEnds_4 κ dt d Z x (nI i) = some v ∧ L_R_seen_43 κ (seenK κ) d' q (nI s) y x (nI i) rt = seenK κ q (nI s) y v rt
  | 0, i, d, d', x, hi, hd, hd' => by
    obtain ⟨d, rfl⟩ : ∃ z, d = z + 1 := ⟨d - 1, by omega⟩
    obtain ⟨d', rfl⟩ : ∃ z, d' = z + 1 := ⟨d' - 1, by omega⟩
    have hn := h.1.nr
    rw [L_Si_looseEnds_4, L_R_seen_43, h.2.1, if_pos (nI_le (by omega) (by omega)), rs7 h.1, bnd_t, hn.1, if_pos (nI_le (by omega) (by omega))]
    exact ⟨x, rfl, rfl⟩
  | n + 1, i, d, d', x, hi, hd, hd' => by
    obtain ⟨d, rfl⟩ : ∃ z, d = z + 1 := ⟨d - 1, by omega⟩
    obtain ⟨d', rfl⟩ : ∃ z, d' = z + 1 := ⟨d' - 1, by omega⟩
    have hn := h.1.nr
    have hi' : i < nR (rw_ rt q s) := by omega
    have ih := fun y => q_seen2 h hy n (i + 1) d d' y (by omega) (by omega) (by omega)
    obtain ⟨v0, a0, b0⟩ := q_loose h (e := 0) hi' (by decide)
    obtain ⟨v1, a1, b1⟩ := q_loose h (e := 1) hi' (by decide)
    have a0' : f_Si_isLoose κ Z (nI i) 2 dt = some v0 := a0
    have a1' : f_Si_isLoose κ Z (nI i) 3 dt = some v1 := a1
    have b0' : f_R_isLoose κ q (nI s) (nI i) 0 rt = some v0 := b0
    have b1' : f_R_isLoose κ q (nI s) (nI i) 1 rt = some v1 := b1
    rw [L_Si_looseEnds_4, L_R_seen_43, h.2.1, if_neg (nI_ge hi' (by omega)), rs7 h.1, bnd_t, hn.1, if_neg (nI_ge hi' (by omega)), if_neg hy, a0', bnd_t, a1', bnd_t, b0', bnd_t, b1', bnd_t, nI_1, Int32.add_assoc, Int32.add_assoc]
    exact ih _
/-- what a ridge puts right -/
theorem q_putsL (h : LK κ dt rt a q s Z) (hr : r < nR (rw_ rt q s)) (h0 : gi rt (q + 15) r = 0) (k : Nat → Int32 → Int32 → Int32 → Int32 → Int32 → Int32 → Int32 → AS → Option (Int32 × AS)) (x3 x5 x6 : Int32) : ∀ n i d d', i + n = nR (rw_ rt q s) → n < d → n + 1 < d' → ∃ v, (v = 0 ∨ v = 1) ∧ L_Si_putsRight_12 κ dt d Z (nI r) (nI i) = some v ∧ L_R_right_67 κ k d' q (nI s) x3 (nI (nR (rw_ rt q s))) x5 x6 (nI r) 0 (nI i) rt = k q (nI s) x3 (nI (nR (rw_ rt q s))) x5 x6 (nI r) v rt
  | 0, i, d, d', hi, hd, hd' => by
    obtain ⟨d, rfl⟩ : ∃ z, d = z + 1 := ⟨d - 1, by omega⟩
    obtain ⟨d', rfl⟩ : ∃ z, d' = z + 1 := ⟨d' - 1, by omega⟩
    have hn := h.1.nr
    rw [L_Si_putsRight_12, L_R_right_67, h.2.1, if_pos (nI_le (by omega) (by omega)), if_pos (nI_le (by omega) (by omega))]
    exact ⟨0, Or.inl rfl, rfl, rfl⟩
  | n + 1, i, d, d', hi, hd, hd' => by
    obtain ⟨d, rfl⟩ : ∃ z, d = z + 1 := ⟨d - 1, by omega⟩
    obtain ⟨d', rfl⟩ : ∃ z, d' = z + 2 := ⟨d' - 2, by omega⟩
    have hn := h.1.nr
    have hi' : i < nR (rw_ rt q s) := by omega
    have ih := q_putsL h hr h0 k x3 x5 x6 n (i + 1) d (d' + 1) (by omega) (by omega) (by omega)
    obtain ⟨v0, a0, b0⟩ := q_loose h (e := 0) hi' (by decide)
    obtain ⟨v1, a1, b1⟩ := q_loose h (e := 1) hi' (by decide)
    obtain ⟨u0, c0, e0⟩ := q_through h.1 hr hi' (e := 0) (by decide)
    obtain ⟨u1, c1, e1⟩ := q_through h.1 hr hi' (e := 1) (by decide)
    have a0' : f_Si_isLoose κ Z (nI i) 2 dt = some v0 := a0
    have a1' : f_Si_isLoose κ Z (nI i) 3 dt = some v1 := a1
    have b0' : f_R_isLoose κ q (nI s) (nI i) 0 rt = some v0 := b0
    have b1' : f_R_isLoose κ q (nI s) (nI i) 1 rt = some v1 := b1
    have c0' : f_Sh_goesThroughEnd κ a (nI r) (nI i) 2 dt = some u0 := c0
    have c1' : f_Sh_goesThroughEnd κ a (nI r) (nI i) 3 dt = some u1 := c1
    have e0' : f_R_goesThrough κ q (nI s) (nI r) (nI i) 0 rt = some u0 := e0
    have e1' : f_R_goesThrough κ q (nI s) (nI r) (nI i) 1 rt = some u1 := e1
    have z10 : ¬ (1 : Int32) = 0 := by decide
    have stop : L_R_right_67 κ k (d' + 1) q (nI s) x3 (nI (nR (rw_ rt q s))) x5 x6 (nI r) 1 (nI (i + 1)) rt = k q (nI s) x3 (nI (nR (rw_ rt q s))) x5 x6 (nI r) 1 rt := by
      rw [L_R_right_67, grd_t (vp_in_nI (by omega) (by decide)), nI_clamp (by omega), h0, if_pos rfl, if_neg z10, ite_self]
    have found : ∃ v, (v = 0 ∨ v = 1) ∧ some (1 : Int32) = some v ∧ L_R_right_67 κ k (d' + 1) q (nI s) x3 (nI (nR (rw_ rt q s))) x5 x6 (nI r) 1 (nI (i + 1)) rt = k q (nI s) x3 (nI (nR (rw_ rt q s))) x5 x6 (nI r) v rt := ⟨1, Or.inr rfl, rfl, stop⟩
    rw [L_Si_putsRight_12, L_R_right_67, h.2.1, if_neg (nI_ge hi' (by omega)), if_neg (nI_ge hi' (by omega)), grd_t (vp_in_nI (by omega) (by decide)), nI_clamp (by omega), h0, if_pos rfl, if_pos rfl]
    simp only [jn_e, if_true, eq_false z10, if_false]
    rw [h.2.2.1]
    simp only [bnd_t, grd_t h.1.1.1, c0', a0', b0', e0', c1', a1', b1', e1']
    rw [nI_1]
    by_cases hu0 : u0 = 0
    · rw [if_pos hu0, if_pos hu0, ite_self]
      by_cases hu1 : u1 = 0
      · rw [if_pos hu1, if_pos hu1, ite_self]; exact ih
      · rw [if_neg hu1, if_neg hu1]
        by_cases hv1 : v1 = 0
        · rw [if_pos hv1, if_pos hv1]; exact ih
        · rw [if_neg hv1, if_neg hv1]; exact found
    · rw [if_neg hu0, if_neg hu0]
      by_cases hv0 : v0 = 0
      · rw [if_pos hv0, if_pos hv0]
        by_cases hu1 : u1 = 0
        · rw [if_pos hu1, if_pos hu1, ite_self]; exact ih
        · rw [if_neg hu1, if_neg hu1]
          by_cases hv1 : v1 = 0
          · rw [if_pos hv1, if_pos hv1]; exact ih
          · rw [if_neg hv1, if_neg hv1]; exact found
      · rw [if_neg hv0, if_neg hv0]; exact found
end Sight
