/-! corners: a ridge drawn on both grids -/
def mdC (x3 x6 x4 x5 : Int32) : Int32 := (((if x6 = x4 then 16 else if x6 = x5 then 16 else 0) ||| (if x6 = x4 then (0 : Int32) else (if x3 = 0 then (4 : Int32) else (1 : Int32) : Int32) : Int32)) ||| (if x6 = x5 then (0 : Int32) else (if x3 = 0 then (8 : Int32) else (2 : Int32) : Int32) : Int32))
def mdR (x3 x6 x4 x5 : Int32) : Int32 := ((((if x3 = 0 then (32 : Int32) else (64 : Int32) : Int32) ||| (if x6 = x4 then 16 else if x6 = x5 then 16 else 0)) ||| (if x6 ≤ x4 then (0 : Int32) else (if x3 = 0 then (1 : Int32) else (4 : Int32) : Int32) : Int32)) ||| (if x5 ≤ x6 then (0 : Int32) else (if x3 = 0 then (2 : Int32) else (8 : Int32) : Int32) : Int32))
def ptR (x3 x6 v : Int32) : Int32 := ((201 : Int32) * (if x3 = 0 then x6 else v)) + (if x3 = 0 then v else x6)
theorem drawR_e (κ : Ko) (d a0 a1 : Nat) (x2 x3 x4 x5 x6 : Int32) (st : AS) : L_Cn_drawRidge_35 κ (d + 1) a0 a1 x2 x3 x4 x5 x6 st = if x5 < x6 then some st else bnd (f_Cn_pointOf κ a0 a1 x2 x6 st) (fun v7 => L_Cn_drawRidge_35 κ d a0 a1 x2 x3 x4 x5 (x6 + 1) (gput st (a0 + 1) 40401 v7 ((gat (gi st (a0 + 1)) 40401 v7) ||| mdC x3 x6 x4 x5))) := by
  rw [L_Cn_drawRidge_35]
  unfold mdC
  simp only [jn_e]
  by_cases h : x5 < x6
  · rw [if_pos h, if_pos h]
  · rw [if_neg h, if_neg h]
    by_cases h1 : x6 = x4
    · simp only [if_pos h1]
    · by_cases h2 : x6 = x5
      · simp only [if_neg h1, if_pos h2]
      · simp only [if_neg h1, if_neg h2]
theorem marks_e (κ : Ko) (k : Nat → Int32 → Int32 → AS → Option AS) (d a0 : Nat) (x1 x2 x3 x4 x5 x6 v : Int32) (st : AS) (hv : f_R_ridgeOf κ a0 x1 x2 1 st = some v) : L_R_marks_64 κ k (d + 1) a0 x1 x2 x3 x4 x5 x6 st = if x5 < x6 then k a0 x1 x2 st else grd (vp_in (ptR x3 x6 v) 40401) (grd (vp_in (ptR x3 x6 v) 40401) (L_R_marks_64 κ k d a0 x1 x2 x3 x4 x5 (x6 + 1) (ui st (a0 + 16) (ptR x3 x6 v).toNatClampNeg ((gi st (a0 + 16) (ptR x3 x6 v).toNatClampNeg) ||| mdR x3 x6 x4 x5)))) := by
  rw [L_R_marks_64]
  unfold mdR ptR
  simp only [jn_e]
  rw [hv]
  simp only [bnd_t]
  by_cases h : x5 < x6
  · rw [if_pos h, if_pos h]
  · rw [if_neg h, if_neg h]
    by_cases h3 : x3 = 0
    · by_cases h1 : x6 = x4
      · simp only [if_pos h1, if_pos h3]
      · by_cases h2 : x6 = x5
        · simp only [if_neg h1, if_pos h2, if_pos h3]
        · simp only [if_neg h1, if_neg h2, if_pos h3]
    · by_cases h1 : x6 = x4
      · simp only [if_pos h1, if_neg h3]
      · by_cases h2 : x6 = x5
        · simp only [if_neg h1, if_pos h2, if_neg h3]
        · simp only [if_neg h1, if_neg h2, if_neg h3]
def ptN (w pl i : Nat) : Nat := if w = 0 then 201 * i + pl else 201 * pl + i
theorem mdC_n {w i fr to_ : Nat} (hi : fr ≤ i) (hi2 : i ≤ to_) (hf : fr < to_) (ht : to_ ≤ 200) : mdC (if w = 0 then 1 else 0) (nI i) (nI fr) (nI to_) = nI (mkN w (decide (i = fr)) (decide (i = to_)) % 32) := by
  unfold mdC mkN
  have q1 : (nI i = nI fr) = (i = fr) := propext (nI_eq (by omega) (by omega))
  have q2 : (nI i = nI to_) = (i = to_) := propext (nI_eq (by omega) (by omega))
  simp only [q1, q2]
  by_cases h1 : i = fr
  · have h2 : ¬ i = to_ := by omega
    rw [decide_eq_true h1, decide_eq_false h2]
    by_cases hw : w = 0
    · simp only [if_pos h1, if_neg h2, if_pos hw]; decide
    · simp only [if_pos h1, if_neg h2, if_neg hw]; decide
  · by_cases h2 : i = to_
    · rw [decide_eq_false h1, decide_eq_true h2]
      by_cases hw : w = 0
      · simp only [if_neg h1, if_pos h2, if_pos hw]; decide
      · simp only [if_neg h1, if_pos h2, if_neg hw]; decide
    · rw [decide_eq_false h1, decide_eq_false h2]
      by_cases hw : w = 0
      · simp only [if_neg h1, if_neg h2, if_pos hw]; decide
      · simp only [if_neg h1, if_neg h2, if_neg hw]; decide
theorem mdR_n {w i fr to_ : Nat} (hw2 : w < 2) (hi : fr ≤ i) (hi2 : i ≤ to_) (hf : fr < to_) (ht : to_ ≤ 200) : mdR (nI w) (nI i) (nI fr) (nI to_) = nI (mkN w (decide (i = fr)) (decide (i = to_))) := by
  unfold mdR mkN
  have q1 : (nI i = nI fr) = (i = fr) := propext (nI_eq (by omega) (by omega))
  have q2 : (nI i = nI to_) = (i = to_) := propext (nI_eq (by omega) (by omega))
  have q3 : (nI i ≤ nI fr) = (i ≤ fr) := propext (nI_leI (by omega) (by omega))
  have q4 : (nI to_ ≤ nI i) = (to_ ≤ i) := propext (nI_leI (by omega) (by omega))
  have q5 : (nI w = 0) = (w = 0) := propext (nI_eq (b := 0) (by omega) (by omega))
  simp only [q1, q2, q3, q4, q5]
  by_cases h1 : i = fr
  · have h2 : ¬ i = to_ := by omega
    have h3 : i ≤ fr := by omega
    have h4 : ¬ to_ ≤ i := by omega
    rw [decide_eq_true h1, decide_eq_false h2]
    by_cases hw : w = 0
    · simp only [if_pos h1, if_neg h2, if_pos h3, if_neg h4, if_pos hw]; decide
    · simp only [if_pos h1, if_neg h2, if_pos h3, if_neg h4, if_neg hw]; decide
  · have h3 : ¬ i ≤ fr := by omega
    by_cases h2 : i = to_
    · have h4 : to_ ≤ i := by omega
      rw [decide_eq_false h1, decide_eq_true h2]
      by_cases hw : w = 0
      · simp only [if_neg h1, if_pos h2, if_neg h3, if_pos h4, if_pos hw]; decide
      · simp only [if_neg h1, if_pos h2, if_neg h3, if_pos h4, if_neg hw]; decide
    · have h4 : ¬ to_ ≤ i := by omega
      rw [decide_eq_false h1, decide_eq_false h2]
      by_cases hw : w = 0
      · simp only [if_neg h1, if_neg h2, if_neg h3, if_neg h4, if_pos hw]; decide
      · simp only [if_neg h1, if_neg h2, if_neg h3, if_neg h4, if_neg hw]; decide
theorem ptR_n {w pl i : Nat} (hw : w < 2) : ptR (nI w) (nI i) (nI pl) = nI (ptN w pl i) := by
  unfold ptR ptN
  have q5 : (nI w = 0) = (w = 0) := propext (nI_eq (b := 0) (by omega) (by omega))
  simp only [q5]
  rw [show (201 : Int32) = nI 201 from rfl]
  by_cases h : w = 0
  · rw [if_pos h, if_pos h, if_pos h, nI_mul, nI_add]
  · rw [if_neg h, if_neg h, if_neg h, nI_mul, nI_add]
/-- both grids alike -/
def GRD (dt rt : AS) (Z q : Nat) (M : Nat → Nat) : Prop := ∀ p, p < 40401 → M p < 128 ∧ okM (M p) = true ∧ gi rt (q + 16) p = nI (M p) ∧ gi dt (Z + 1) p = nI (M p % 32)
theorem GRD.put {dt rt : AS} {Z q p k : Nat} {M : Nat → Nat} (h : GRD dt rt Z q M) (hp : p < 40401) (hk : k ∈ [50, 49, 35, 88, 84, 76]) : GRD (ui dt (Z + 1) p (gi dt (Z + 1) p ||| nI (k % 32))) (ui rt (q + 16) p (gi rt (q + 16) p ||| nI k)) Z q (updN M p (M p ||| k)) := fun j hj => by
  obtain ⟨m1, m2, m3, m4⟩ := h p hp
  obtain ⟨s1, s2, s3, s4⟩ := step_facts (M p) m1 m2 k hk
  by_cases e : j = p
  · subst e
    rw [updN_eq, gi_ui, if_pos ⟨rfl, rfl⟩, gi_ui, if_pos ⟨rfl, rfl⟩, m3, m4]
    exact ⟨s1, s2, s3, s4⟩
  · rw [updN_ne e, gi_ui, if_neg (fun z => e z.2), gi_ui, if_neg (fun z => e z.2)]
    exact h j hj
section Grid
variable {κ : Ko} {dt rt : AS} {a q s r Z : Nat} {S : Nat → Int32}
theorem rdRn (h : ShD κ dt a S) (hk : SOK S) (hr : r < nR S) {u : Nat} {y : Int32} (hu : u < 7) (hy : y = nI u) : f_Sh_ridgePart κ a (nI r) y dt = some (nI (rN S r u)) := by
  rw [rdR h (sok_7 hk).2 hr hu hy]
  have := hk.2.2.1 r hr
  obtain ⟨a0, a1, a2, a3, a4, a5, a6, -⟩ := this
  have hc : u = 0 ∨ u = 1 ∨ u = 2 ∨ u = 3 ∨ u = 4 ∨ u = 5 ∨ u = 6 := by omega
  rcases hc with rfl | rfl | rfl | rfl | rfl | rfl | rfl
  · exact congrArg some (a0.cl (by decide)).1
  · exact congrArg some (a1.cl (by decide)).1
  · exact congrArg some (a2.cl (by decide)).1
  · exact congrArg some (a3.cl (by decide)).1
  · exact congrArg some (a4.cl (by decide)).1
  · exact congrArg some (a5.cl (by decide)).1
  · exact congrArg some (a6.cl (by decide)).1
theorem rrRn (h : rw_ rt q s = S) (hs : s < 7) (hk : SOK S) (hr : r < nR S) {u : Nat} {y : Int32} (hu : u < 7) (hy : y = nI u) : f_R_ridgeOf κ q (nI s) (nI r) y rt = some (nI (rN S r u)) := by
  have h7 := (sok_7 hk).2
  rw [r_ridge hs (f := r) (by omega) hu hy, h]
  have := rdRn (κ := κ) (shSt_sh κ S) hk hr hu hy
  rw [rdR (shSt_sh κ S) h7 hr hu hy] at this
  exact this
/-- what is known of a ridge -/
theorem ridge_n (hk : SOK S) (hr : r < nR S) : rN S r 0 < 2 ∧ 1 ≤ rN S r 1 ∧ rN S r 1 < sN S (rN S r 0) ∧ rN S r 2 < rN S r 3 ∧ rN S r 3 ≤ sN S (1 - rN S r 0) ∧ sN S 0 ≤ 200 ∧ sN S 1 ≤ 200 ∧ 2 ≤ sN S 0 ∧ 2 ≤ sN S 1 := by
  obtain ⟨a0, a1, a2, a3, a4, a5, a6, b1, b2, b3⟩ := hk.2.2.1 r hr
  have c0 := (hk.1.1).cl (by decide)
  have c1 := (hk.1.2.1).cl (by decide)
  have d0 := a0.cl (by decide)
  have d1 := a1.cl (by decide)
  refine ⟨?_, d1.2.1, b2, b1, b3, c0.2.2, c1.2.2, c0.2.1, c1.2.1⟩
  have := d0.2.2
  show (S (810 + 7 * r + 0)).toNatClampNeg < 2
  omega
theorem pt_lt (hk : SOK S) (hr : r < nR S) {i : Nat} (hi : i ≤ rN S r 3) : ptN (rN S r 0) (rN S r 1) i < 40401 := by
  obtain ⟨h1, h2, h3, h4, h5, h6, h7, h8, h9⟩ := ridge_n hk hr
  have hc : rN S r 0 = 0 ∨ rN S r 0 = 1 := by omega
  unfold ptN
  rcases hc with e | e
  · rw [e] at h3 h5 ⊢
    rw [if_pos rfl]
    have : sN S (1 - 0) = sN S 1 := rfl
    omega
  · rw [e] at h3 h5 ⊢
    rw [if_neg (by decide)]
    have : sN S (1 - 1) = sN S 0 := rfl
    omega
theorem pointOf_n (h : ShD κ dt a S) (hk : SOK S) (hr : r < nR S) (i : Nat) : f_Cn_pointOf κ Z a (nI r) (nI i) dt = some (nI (ptN (rN S r 0) (rN S r 1) i)) := by
  have h1 := (ridge_n hk hr).1
  unfold f_Cn_pointOf ptN
  rw [rdRn h hk hr (u := 1) (y := 1) (by decide) rfl, bnd_t, rdRn h hk hr (u := 0) (y := 0) (by decide) rfl, bnd_t, show (201 : Int32) = nI 201 from rfl]
  by_cases e : rN S r 0 = 0
  · rw [if_pos e, if_pos (show nI (rN S r 0) = 0 by rw [e]; rfl), nI_mul, nI_add, Nat.mul_comm]
  · rw [if_neg e, if_neg (fun z => e ((nI_ltk (m := rN S r 0) (k := 0) (y := 0) rfl (by omega) (by decide)).2.2.2.2.mp z)), nI_mul, nI_add, Nat.mul_comm]
theorem q_markL (hk : SOK S) (hs : s < 7) (hr : r < nR S) (hZ : Z + 2 < a ∨ a + 3 < Z) (k : Nat → Int32 → Int32 → AS → Option AS) : ∀ n i d d' M dt rt, i + n = rN S r 3 + 1 → n < d → n < d' → rN S r 2 ≤ i → GRD dt rt Z q M → ShD κ dt a S → rw_ rt q s = S →
    ∃ dt2 rt2 M', L_Cn_drawRidge_35 κ d Z a (nI r) (if rN S r 0 = 0 then 1 else 0) (nI (rN S r 2)) (nI (rN S r 3)) (nI i) dt = some dt2 ∧ L_R_marks_64 κ k d' q (nI s) (nI r) (nI (rN S r 0)) (nI (rN S r 2)) (nI (rN S r 3)) (nI i) rt = k q (nI s) (nI r) rt2 ∧ GRD dt2 rt2 Z q M' ∧ (∀ p, M' p % 32 ≠ 0 → M p % 32 ≠ 0 ∨ ∃ j, rN S r 2 ≤ j ∧ j ≤ rN S r 3 ∧ p = ptN (rN S r 0) (rN S r 1) j) ∧ Same (fun p _ => p = Z + 1) dt dt2 ∧ Same (fun p _ => p = q + 16) rt rt2
  | 0, i, d, d', M, dt, rt, hi, hd, hd', hfr, hG, hD, hR => by
    obtain ⟨d, rfl⟩ : ∃ z, d = z + 1 := ⟨d - 1, by omega⟩
    obtain ⟨d', rfl⟩ : ∃ z, d' = z + 1 := ⟨d' - 1, by omega⟩
    obtain ⟨h1, h2, h3, h4, h5, h6, h7, h8, h9⟩ := ridge_n hk hr
    have h200 : rN S r 3 ≤ 200 := by have := hk.2.2.1 r hr; exact (this.2.2.2.1.cl (by decide)).2.2
    have hlt : nI (rN S r 3) < nI i := (nI_ltI (by omega) (by omega)).mpr (by omega)
    rw [drawR_e, marks_e κ k d' q (nI s) (nI r) _ _ _ _ _ rt (rrRn hR hs hk hr (u := 1) (y := 1) (by decide) rfl), if_pos hlt, if_pos hlt]
    exact ⟨dt, rt, M, rfl, rfl, hG, fun p hp => Or.inl hp, Same.rf _ _, Same.rf _ _⟩
  | n + 1, i, d, d', M, dt, rt, hi, hd, hd', hfr, hG, hD, hR => by
    obtain ⟨d, rfl⟩ : ∃ z, d = z + 1 := ⟨d - 1, by omega⟩
    obtain ⟨d', rfl⟩ : ∃ z, d' = z + 1 := ⟨d' - 1, by omega⟩
    obtain ⟨h1, h2, h3, h4, h5, h6, h7, h8, h9⟩ := ridge_n hk hr
    have h200 : rN S r 3 ≤ 200 := by have := hk.2.2.1 r hr; exact (this.2.2.2.1.cl (by decide)).2.2
    have hlt : ¬ nI (rN S r 3) < nI i := fun z => by have := (nI_ltI (by omega) (by omega)).mp z; omega
    have hp := pt_lt hk hr (i := i) (by omega)
    rw [drawR_e, marks_e κ k d' q (nI s) (nI r) _ _ _ _ _ rt (rrRn hR hs hk hr (u := 1) (y := 1) (by decide) rfl), if_neg hlt, if_neg hlt, pointOf_n hD hk hr i, bnd_t, mdC_n hfr (by omega) h4 h200, mdR_n h1 hfr (by omega) h4 h200, ptR_n h1, grd_t (vp_in_nI hp (by decide)), grd_t (vp_in_nI hp (by decide)), nI_clamp (by omega), gat_n (j := ptN (rN S r 0) (rN S r 1) i) rfl hp (by decide), gput_n (j := ptN (rN S r 0) (rN S r 1) i) rfl hp (by decide), nI_1]
    have hG2 := hG.put hp (mkN_in (rN S r 0) (decide (i = rN S r 2)) (decide (i = rN S r 3)))
    generalize mkN (rN S r 0) (decide (i = rN S r 2)) (decide (i = rN S r 3)) = mk at *
    have w1 : Same (fun p _ => p = Z + 1) dt (ui dt (Z + 1) (ptN (rN S r 0) (rN S r 1) i) (gi dt (Z + 1) (ptN (rN S r 0) (rN S r 1) i) ||| nI (mk % 32))) := (Same.rf _ _).ui rfl
    have w2 : Same (fun p _ => p = q + 16) rt (ui rt (q + 16) (ptN (rN S r 0) (rN S r 1) i) (gi rt (q + 16) (ptN (rN S r 0) (rN S r 1) i) ||| nI mk)) := (Same.rf _ _).ui rfl
    obtain ⟨d2, r2, M', z1, z2, z3, z4, z5, z6⟩ := q_markL hk hs hr hZ k n (i + 1) d d' _ _ _ (by omega) (by omega) (by omega) (by omega) hG2 (hD.fr w1 (fun p j x1 x2 z => by omega)) (rw_fr hR w2 (fun j z => by omega))
    refine ⟨d2, r2, M', z1, z2, z3, fun p hp' => ?_, w1.tr z5, w2.tr z6⟩
    rcases z4 p hp' with z | z
    · by_cases e : p = ptN (rN S r 0) (rN S r 1) i
      · exact Or.inr ⟨i, hfr, by omega, e⟩
      · rw [updN_ne e] at z
        exact Or.inl z
    · exact Or.inr z
end Grid
