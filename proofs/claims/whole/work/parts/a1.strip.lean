/-! a strip reduced: both classes -/
def sprW (A p j : Nat) : Prop := p = A + 3 ∨ p = A + 4 ∨ p = A ∧ (j = 5 ∨ j = 6)
def sqW (q p j : Nat) : Prop := p = q + 17 ∨ p = q + 18 ∨ p = q ∧ (j = 29 ∨ j = 30)
def SPD (dt : AS) (A l : Nat) (P F : Nat → Int32) : Prop := l ≤ 20 ∧ gi dt A 5 = nI l ∧ (∀ i, i ≤ l → gi dt (A + 3) i = P i) ∧ ∀ i, i < l → gi dt (A + 4) i = F i
def SPQ (rt : AS) (q l : Nat) (P F : Nat → Int32) : Prop := l ≤ 20 ∧ gi rt q 29 = nI l ∧ (∀ i, i ≤ l → gi rt (q + 17) i = P i) ∧ ∀ i, i < l → gi rt (q + 18) i = F i
def offN (p g : Nat) (f : Nat → Int32) (i : Nat) : Int32 := if i < p then f i else f (i + g)
section Strip
variable {κ : Ko} {A q l p g : Nat} {P F : Nat → Int32} {dt rt : AS}
theorem d_closeL (hl : l ≤ 19) (hg : 1 ≤ g) (hlg : l + g ≤ 20) : ∀ n i d dt, i + n = l + 1 → n < d → p ≤ i → gi dt A 5 = nI l → (∀ j, j ≤ l + g → gi dt (A + 3) j = if j < i then offN p g P j else P j) → (∀ j, j < i → j < l → gi dt (A + 4) j = offN p g F j) → (∀ j, i ≤ j → j < l + g → gi dt (A + 4) j = F j) →
    ∃ dt', L_Sp_closeUp_12 κ d A (nI g) (nI i) dt = some dt' ∧ (∀ j, j ≤ l → gi dt' (A + 3) j = offN p g P j) ∧ (∀ j, j < l → gi dt' (A + 4) j = offN p g F j) ∧ Same (fun p _ => p = A + 3 ∨ p = A + 4) dt dt'
  | 0, i, d, dt, hi, hd, hp, h5, hP, hF, hF2 => by
    obtain ⟨d, rfl⟩ : ∃ z, d = z + 1 := ⟨d - 1, by omega⟩
    rw [L_Sp_closeUp_12, h5, if_pos ((nI_ltI (by omega) (by omega)).mpr (by omega))]
    exact ⟨dt, rfl, fun j hj => by rw [hP j (by omega), if_pos (by omega)], fun j hj => hF j (by omega) hj, Same.rf _ _⟩
  | n + 1, i, d, dt, hi, hd, hp, h5, hP, hF, hF2 => by
    obtain ⟨d, rfl⟩ : ∃ z, d = z + 1 := ⟨d - 1, by omega⟩
    rw [L_Sp_closeUp_12, h5, if_neg (fun z => by have := (nI_ltI (by omega) (by omega)).mp z; omega), nI_add, gput_n (j := i) rfl (by omega) (by decide), gat_n (j := i + g) rfl (by omega) (by decide), gput_n (j := i) rfl (by omega) (by decide), nI_1]
    have w1 : Same (fun p _ => p = A + 3 ∨ p = A + 4) dt (ui (ui dt (A + 3) i (gi dt (A + 3) (i + g))) (A + 4) i (gat (gi (ui dt (A + 3) i (gi dt (A + 3) (i + g))) (A + 4)) 20 (nI (i + g)))) := ((Same.rf _ dt).ui (Or.inl rfl)).ui (Or.inr rfl)
    obtain ⟨d2, z1, z2, z3, z4⟩ := d_closeL hl hg hlg n (i + 1) d _ (by omega) (by omega) (by omega) (by rw [(w1 A 5 (by omega)).1]; exact h5) (fun j hj => by
      rw [ui2a _ _ _ _ _ _ _ _ (show A + 3 ≠ A + 4 by omega)]
      by_cases e : j = i
      · rw [if_pos e, if_pos (by omega), hP (i + g) (by omega), if_neg (by omega), e]
        unfold offN
        rw [if_neg (by omega)]
      · rw [if_neg e, hP j hj]
        by_cases e2 : j < i
        · rw [if_pos e2, if_pos (by omega)]
        · rw [if_neg e2, if_neg (by omega)]) (fun j hj hjl => by
      rw [ui2b _ _ _ _ _ _ _ _ (show A + 3 ≠ A + 4 by omega)]
      by_cases e : j = i
      · rw [if_pos e, e, gat_n (j := i + g) rfl (by omega) (by decide), gi_ui, if_neg (by omega), hF2 (i + g) (by omega) (by omega)]
        unfold offN
        rw [if_neg (by omega)]
      · rw [if_neg e]; exact hF j (by omega) hjl) (fun j hj hjl => by
      rw [ui2b _ _ _ _ _ _ _ _ (show A + 3 ≠ A + 4 by omega), if_neg (by omega)]
      exact hF2 j (by omega) hjl)
    exact ⟨d2, z1, z2, z3, w1.tr z4⟩
theorem d_close (h : SPD dt A (l + g) P F) (hg : 1 ≤ g) (hp : p ≤ l) : ∃ dt', f_Sp_closeUp κ A (nI p) (nI g) dt = some dt' ∧ SPD dt' A l (offN p g P) (offN p g F) ∧ gi dt' A 6 = gi dt A 6 ∧ Same (sprW A) dt dt' := by
  obtain ⟨h1, h2, h3, h4⟩ := h
  unfold f_Sp_closeUp
  have e5 : gi dt A 5 - nI g = nI l := by rw [h2, nI_sub (by omega), Nat.add_sub_cancel]
  rw [e5]
  have w0 : Same (sprW A) dt (ui dt A 5 (nI l)) := (Same.rf _ dt).ui (Or.inr (Or.inr ⟨rfl, Or.inl rfl⟩))
  obtain ⟨d2, z1, z2, z3, z4⟩ := d_closeL (κ := κ) (A := A) (l := l) (g := g) (p := p) (P := P) (F := F) (by omega) hg h1 (l + 1 - p) p FU (ui dt A 5 (nI l)) (by omega) (FUn (by omega)) (Nat.le_refl _) (by rw [gi_ui, if_pos ⟨rfl, rfl⟩]) (fun j hj => by
    rw [gi_ui, if_neg (by omega), h3 j hj]
    unfold offN
    by_cases e : j < p
    · rw [if_pos e, if_pos e]
    · rw [if_neg e]) (fun j hj hjl => by
    rw [gi_ui, if_neg (by omega), h4 j (by omega)]
    unfold offN
    rw [if_pos hj]) (fun j hj hjl => by rw [gi_ui, if_neg (by omega)]; exact h4 j hjl)
  refine ⟨d2, z1, ⟨by omega, by rw [(z4 A 5 (by omega)).1, gi_ui, if_pos ⟨rfl, rfl⟩], z2, z3⟩, by rw [(z4 A 6 (by omega)).1, gi_ui, if_neg (by omega)], w0.tr (z4.mono (fun p j z => by unfold sprW; omega))⟩
/-- the reference: one fold and one part go -/
theorem r_goesP (k : Nat → Int32 → AS → Option AS) (x : Int32) (hl : l ≤ 20) : ∀ n i d rt, i + n = l → n < d → p ≤ i → gi rt q 29 = nI l → (∀ j, j ≤ l → gi rt (q + 17) j = if j < i then offN p 1 P j else P j) →
    ∃ rt', L_R_goes_2 κ k d q x (nI i) rt = k q x rt' ∧ (∀ j, j < l → gi rt' (q + 17) j = offN p 1 P j) ∧ Same (fun p _ => p = q + 17) rt rt'
  | 0, i, d, rt, hi, hd, hp, h5, hP => by
    obtain ⟨d, rfl⟩ : ∃ z, d = z + 1 := ⟨d - 1, by omega⟩
    rw [L_R_goes_2, h5, if_pos (nI_le (by omega) (by omega))]
    exact ⟨rt, rfl, fun j hj => by rw [hP j (by omega), if_pos (by omega)], Same.rf _ _⟩
  | n + 1, i, d, rt, hi, hd, hp, h5, hP => by
    obtain ⟨d, rfl⟩ : ∃ z, d = z + 1 := ⟨d - 1, by omega⟩
    rw [L_R_goes_2, h5, if_neg (nI_ge (by omega) (by omega)), nI_1, grd_t (vp_in_nI (by omega) (by decide)), grd_t (vp_in_nI (by omega) (by decide)), nI_clamp (by omega), nI_clamp (by omega)]
    obtain ⟨r2, z1, z2, z3⟩ := r_goesP k x hl n (i + 1) d (ui rt (q + 17) i (gi rt (q + 17) (i + 1))) (by omega) (by omega) (by omega) (by rw [gi_ui, if_neg (by omega)]; exact h5) (fun j hj => by
      rw [gi_ui]
      by_cases e : j = i
      · rw [if_pos ⟨rfl, e⟩, if_pos (by omega), hP (i + 1) (by omega), if_neg (by omega), e]
        unfold offN
        rw [if_neg (by omega)]
      · rw [if_neg (fun z => e z.2), hP j hj]
        by_cases e2 : j < i
        · rw [if_pos e2, if_pos (by omega)]
        · rw [if_neg e2, if_neg (by omega)])
    exact ⟨r2, z1, z2, ((Same.rf (fun p _ => p = q + 17) rt).ui rfl).tr z3⟩
theorem r_goesF (hl : l + 1 ≤ 20) : ∀ n i d rt, i + n = l → n < d → p ≤ i → gi rt q 29 = nI (l + 1) → (∀ j, j < l + 1 → gi rt (q + 18) j = if j < i then offN p 1 F j else F j) →
    ∃ rt', L_R_goes_32 κ d q (nI i) rt = some rt' ∧ gi rt' q 29 = nI l ∧ (∀ j, j < l → gi rt' (q + 18) j = offN p 1 F j) ∧ Same (fun p j => p = q + 18 ∨ p = q ∧ j = 29) rt rt'
  | 0, i, d, rt, hi, hd, hp, h5, hF => by
    obtain ⟨d, rfl⟩ : ∃ z, d = z + 1 := ⟨d - 1, by omega⟩
    rw [L_R_goes_32, nI_1, h5, if_pos (nI_le (by omega) (by omega)), show nI (l + 1) - 1 = nI l from nI_pred l]
    exact ⟨_, rfl, by rw [gi_ui, if_pos ⟨rfl, rfl⟩], fun j hj => by rw [gi_ui, if_neg (by omega), hF j (by omega), if_pos (by omega)], (Same.rf _ rt).ui (Or.inr ⟨rfl, rfl⟩)⟩
  | n + 1, i, d, rt, hi, hd, hp, h5, hF => by
    obtain ⟨d, rfl⟩ : ∃ z, d = z + 1 := ⟨d - 1, by omega⟩
    rw [L_R_goes_32, nI_1, h5, if_neg (nI_ge (by omega) (by omega)), grd_t (vp_in_nI (by omega) (by decide)), grd_t (vp_in_nI (by omega) (by decide)), nI_clamp (by omega), nI_clamp (by omega)]
    obtain ⟨r2, z1, z2, z3, z4⟩ := r_goesF hl n (i + 1) d (ui rt (q + 18) i (gi rt (q + 18) (i + 1))) (by omega) (by omega) (by omega) (by rw [gi_ui, if_neg (by omega)]; exact h5) (fun j hj => by
      rw [gi_ui]
      by_cases e : j = i
      · rw [if_pos ⟨rfl, e⟩, if_pos (by omega), hF (i + 1) (by omega), if_neg (by omega), e]
        unfold offN
        rw [if_neg (by omega)]
      · rw [if_neg (fun z => e z.2), hF j hj]
        by_cases e2 : j < i
        · rw [if_pos e2, if_pos (by omega)]
        · rw [if_neg e2, if_neg (by omega)])
    exact ⟨r2, z1, z2, z3, ((Same.rf _ rt).ui (Or.inl rfl)).tr z4⟩
theorem r_goes {f : Nat} (h : SPQ rt q (l + 1) P F) (hp : p ≤ l + 1) (hf : f ≤ l) : ∃ rt', f_R_goes κ q (nI f) (nI p) rt = some rt' ∧ SPQ rt' q l (offN p 1 P) (offN f 1 F) ∧ gi rt' q 30 = gi rt q 30 ∧ Same (sqW q) rt rt' := by
  obtain ⟨h1, h2, h3, h4⟩ := h
  unfold f_R_goes
  obtain ⟨r1, a1, a2, a3⟩ := r_goesP (κ := κ) (q := q) (l := l + 1) (p := p) (P := P) (fun (v4 : Nat) (v6 : Int32) (s7 : AS) => L_R_goes_32 κ FU v4 v6 s7) (nI f) h1 (l + 1 - p) p FU rt (by omega) (FUn (by omega)) (Nat.le_refl _) h2 (fun j hj => by
    rw [h3 j hj]
    unfold offN
    by_cases e : j < p
    · rw [if_pos e, if_pos e]
    · rw [if_neg e])
  obtain ⟨r2, b1', b2, b3, b4⟩ := r_goesF (κ := κ) (q := q) (l := l) (p := f) (F := F) h1 (l - f) f FU r1 (by omega) (FUn (by omega)) (Nat.le_refl _) (by rw [(a3 q 29 (by omega)).1]; exact h2) (fun j hj => by
    rw [(a3 (q + 18) j (by omega)).1, h4 j hj]
    unfold offN
    by_cases e : j < f
    · rw [if_pos e, if_pos e]
    · rw [if_neg e])
  refine ⟨r2, a1.trans b1', ⟨by omega, b2, fun i hi => by rw [(b4 (q + 17) i (by omega)).1]; exact a2 i (by omega), b3⟩, by rw [(b4 q 30 (by omega)).1, (a3 q 30 (by omega)).1], (a3.mono (fun p j z => by unfold sqW; omega)).tr (b4.mono (fun p j z => by unfold sqW; omega))⟩
end Strip
