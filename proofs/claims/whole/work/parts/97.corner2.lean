/-! corners: both classes' answers -/
theorem cnt_up (f : Nat → Bool) (i : Nat) : ∀ n, cnt f i ≤ cnt f (i + n)
  | 0 => Nat.le_refl _
  | n + 1 => Nat.le_trans (cnt_up f i n) (by rw [← Nat.add_assoc, cnt_s]; exact Nat.le_add_right _ _)
section Corner2
variable {κ : Ko} {dt rt : AS} {a q s r Z : Nat} {S : Nat → Int32} {M : Nat → Nat}
theorem d_wipeAll (hk : SOK S) (hZ : Z + 2 < a ∨ a + 3 < Z) {N0 : Nat → Nat} : ∀ n i d N c dt, i + n = nR S → n < d → WI dt Z (sN S 0) (sN S 1) N0 N c → ShD κ dt a S → (∀ p, N p ≠ 0 → ∃ r, i ≤ r ∧ r < nR S ∧ onR S r p) →
    ∃ dt2 N' c', L_Cn_draw_58 κ d Z a (nI i) dt = some dt2 ∧ WI dt2 Z (sN S 0) (sN S 1) N0 N' c' ∧ (∀ p, N' p = 0) ∧ Same (fun p _ => cnW Z p) dt dt2
  | 0, i, d, N, c, dt, hi, hd, hW, hD, hsup => by
    obtain ⟨d, rfl⟩ : ∃ z, d = z + 1 := ⟨d - 1, by omega⟩
    have h7 := sok_7 hk
    have ec : f_Sh_ridgeCount κ a dt = nI (nR S) := by
      show gi dt a 12 = _
      rw [hD.2.1.2.2.2.2.2.2.1]; exact h7.1
    rw [L_Cn_draw_58, ec, if_pos (nI_le (by omega) (by omega))]
    exact ⟨dt, N, c, rfl, hW, fun p => Decidable.byContradiction (fun z => by
      obtain ⟨r, h1, h2, h3⟩ := hsup p z
      omega), Same.rf _ _⟩
  | n + 1, i, d, N, c, dt, hi, hd, hW, hD, hsup => by
    obtain ⟨d, rfl⟩ : ∃ z, d = z + 1 := ⟨d - 1, by omega⟩
    have h7 := sok_7 hk
    have hi' : i < nR S := by omega
    have ec : f_Sh_ridgeCount κ a dt = nI (nR S) := by
      show gi dt a 12 = _
      rw [hD.2.1.2.2.2.2.2.2.1]; exact h7.1
    obtain ⟨h1, h2, h3, h4, h5, h6, h8, h9, h10⟩ := ridge_n hk hi'
    have h200 : rN S i 3 ≤ 200 := by have := hk.2.2.1 i hi'; exact (this.2.2.2.1.cl (by decide)).2.2
    obtain ⟨d2, N2, c2, z1, z2, z3, z4⟩ := d_wipeL (κ := κ) hk hi' hZ (rN S i 3 + 1 - rN S i 2) (rN S i 2) FU N c dt (by omega) (FUn (by omega)) hW hD
    obtain ⟨d3, N3, c3, y1, y2, y3, y4⟩ := d_wipeAll hk hZ n (i + 1) d N2 c2 d2 (by omega) (by omega) z2 (hD.fr z4 (fun p j x1 x2 z => by unfold cnW at z; omega)) (fun p hp => by
      obtain ⟨g1, g2⟩ := z3 p hp
      obtain ⟨r, u1, u2, u3⟩ := hsup p g1
      by_cases e : r = i
      · rw [e] at u3
        obtain ⟨j, w1, w2, w3⟩ := u3
        exact absurd w3 (g2 j w1 w2)
      · exact ⟨r, by omega, u2, u3⟩)
    refine ⟨d3, N3, c3, ?_, y2, y3, z4.tr y4⟩
    have es : (if rN S i 0 = 0 then f_Sh_side κ a 1 dt else f_Sh_side κ a 0 dt) = nI (sN S (1 - rN S i 0)) := by
      have hc : rN S i 0 = 0 ∨ rN S i 0 = 1 := by omega
      unfold f_Sh_side
      rcases hc with e | e
      · rw [e, if_pos rfl, if_neg (by decide), hD.2.1.2.1]
        exact ((hk.1.2.1).cl (by decide)).1
      · rw [e, if_neg (by decide), if_pos rfl, hD.2.1.1]
        exact ((hk.1.1).cl (by decide)).1
    rw [L_Cn_draw_58, ec, if_neg (nI_ge hi' (by omega))]
    unfold f_Cn_wipeRidge
    rw [rdRn hD hk hi' (u := 0) (y := 0) (by decide) rfl, bnd_t, rdRn hD hk hi' (u := 3) (y := 3) (by decide) rfl, bnd_t, rdRn hD hk hi' (u := 2) (y := 2) (by decide) rfl, bnd_t]
    simp only [way0 h1]
    rw [es, z1, bnd_t, nI_1]
    exact y1
/-- the class's five counts made 0 -/
theorem d_counts0 (k : Nat → Nat → AS → Option AS) (a : Nat) : ∃ dt2, L_Cn_draw_12 κ k FU Z a 0 dt = k Z a dt2 ∧ (∀ j, j < 5 → gi dt2 (Z + 2) j = 0) ∧ Same (fun p _ => p = Z + 2) dt dt2 := by
  refine lk1 (fun d t i => L_Cn_draw_12 κ k d Z a i t) (fun z => ∃ dt2, z = k Z a dt2 ∧ (∀ j, j < 5 → gi dt2 (Z + 2) j = 0) ∧ Same (fun p _ => p = Z + 2) dt dt2) (fun i t => (∀ j, j < i → gi t (Z + 2) j = 0) ∧ Same (fun p _ => p = Z + 2) dt t) (n := 5) ?_ ?_ 5 0 FU dt (by omega) (FUn (by omega)) ⟨fun _ z => absurd z (Nat.not_lt_zero _), Same.rf _ _⟩
  · rintro d t ⟨g1, g2⟩
    rw [L_Cn_draw_12, if_pos (show (5 : Int32) ≤ nI 5 from nI_le (Nat.le_refl _) (by decide))]
    exact ⟨t, rfl, g1, g2⟩
  · rintro d t i hi ⟨g1, g2⟩ ih
    rw [L_Cn_draw_12, if_neg (show ¬ (5 : Int32) ≤ nI i from nI_ge hi (by decide)), grd_t (vp_in_nI (by omega) (by decide)), nI_clamp (by omega), nI_1]
    refine ih _ ⟨fun j hj => ?_, g2.ui rfl⟩
    rw [gi_ui]
    by_cases e : j = i
    · rw [if_pos ⟨rfl, e⟩]
    · rw [if_neg (fun z => e z.2)]; exact g1 j (by omega)
theorem r_grid0 (k : Nat → Int32 → AS → Option AS) (x : Int32) : ∃ rt2, L_R_marks_2 κ k FU q x 0 rt = k q x rt2 ∧ (∀ p, p < 40401 → gi rt2 (q + 16) p = 0) ∧ Same (fun p _ => p = q + 16) rt rt2 := by
  refine lk1 (fun d t i => L_R_marks_2 κ k d q x i t) (fun z => ∃ rt2, z = k q x rt2 ∧ (∀ p, p < 40401 → gi rt2 (q + 16) p = 0) ∧ Same (fun p _ => p = q + 16) rt rt2) (fun i t => (∀ p, p < i → gi t (q + 16) p = 0) ∧ Same (fun p _ => p = q + 16) rt t) (n := 40401) ?_ ?_ 40401 0 FU rt (by omega) (FUn (by omega)) ⟨fun _ z => absurd z (Nat.not_lt_zero _), Same.rf _ _⟩
  · rintro d t ⟨g1, g2⟩
    rw [L_R_marks_2, if_pos (show (40401 : Int32) ≤ nI 40401 from nI_le (Nat.le_refl _) (by decide))]
    exact ⟨t, rfl, g1, g2⟩
  · rintro d t i hi ⟨g1, g2⟩ ih
    rw [L_R_marks_2, if_neg (show ¬ (40401 : Int32) ≤ nI i from nI_ge hi (by decide)), grd_t (vp_in_nI (by omega) (by decide)), nI_clamp (by omega), nI_1]
    refine ih _ ⟨fun j hj => ?_, g2.ui rfl⟩
    rw [gi_ui]
    by_cases e : j = i
    · rw [if_pos ⟨rfl, e⟩]
    · rw [if_neg (fun z => e z.2)]; exact g1 j (by omega)
/-- all points 0 -/
def CN0 (dt : AS) (Z : Nat) : Prop := ∀ p, p < 40401 → gi dt (Z + 1) p = 0
def mrQ (q p : Nat) : Prop := p = q + 16
/-- the class draws and counts; the reference draws -/
theorem q_draw (h : SR κ dt a rt q s) (hZ : Z + 2 < a ∨ a + 3 < Z) (h0 : CN0 dt Z) : ∃ (dt2 rt2 : AS) (M : Nat → Nat), f_Cn_draw κ Z a dt = some dt2 ∧ f_R_marks κ q (nI s) rt = some rt2 ∧ CN0 dt2 Z ∧ (∀ p, p < 40401 → M p < 128 ∧ okM (M p) = true ∧ gi rt2 (q + 16) p = nI (M p)) ∧
    gi dt2 Z 2 = nI (totG cC (fun p => M p % 32) (sN (rw_ rt q s) 0) (sN (rw_ rt q s) 1)) ∧ (∀ j, j < 5 → gi dt2 (Z + 2) j = nI (totG (fun m => cC m && (armN m == j)) (fun p => M p % 32) (sN (rw_ rt q s) 0) (sN (rw_ rt q s) 1))) ∧
    gi dt2 Z 3 = (if totG (fun m => cC m && !flt m) (fun p => M p % 32) (sN (rw_ rt q s) 0) (sN (rw_ rt q s) 1) = 0 then 1 else 0) ∧ Same (fun p _ => cnW Z p) dt dt2 ∧ Same (fun p _ => p = q + 16) rt rt2 := by
  obtain ⟨hD, hk, hs⟩ := h
  have hk7 := (sok_7 hk).2
  unfold f_Cn_draw f_R_marks
  have w0 : Same (fun p _ => cnW Z p) dt (ui (ui dt Z 2 0) Z 3 1) := ((Same.rf _ dt).ui (Or.inl rfl)).ui (Or.inl rfl)
  obtain ⟨d1, a1, a2, a3⟩ := d_counts0 (κ := κ) (Z := Z) (dt := ui (ui dt Z 2 0) Z 3 1) (fun (v3 : Nat) (v5 : Nat) (s7 : AS) => L_Cn_draw_36 κ (fun (v11 : Nat) (v13 : Nat) (s15 : AS) => L_Cn_draw_58 κ FU v11 v13 (0 : Int32) s15) FU v3 v5 (0 : Int32) s7) a
  obtain ⟨r1, b1, b2, b3⟩ := r_grid0 (κ := κ) (q := q) (rt := rt) (fun (v3 : Nat) (v5 : Int32) (s6 : AS) => L_R_marks_23 κ FU v3 v5 (0 : Int32) s6) (nI s)
  have w1 : Same (fun p _ => cnW Z p) dt d1 := w0.tr (a3.mono (fun p j z => Or.inr (Or.inr z)))
  have hG : GRD d1 r1 Z q (fun _ => 0) := fun p hp => ⟨show (0 : Nat) < 128 by decide, show okM 0 = true by decide, b2 p hp, by
    rw [(a3 (Z + 1) p (by omega)).1, gi_ui, if_neg (by omega), gi_ui, if_neg (by omega)]; exact h0 p hp⟩
  obtain ⟨d2, r2, M, c1, c2, c3, c4, c5, c6⟩ := q_markAll (κ := κ) (q := q) (s := s) hk hs hZ (fun (v11 : Nat) (v13 : Nat) (s15 : AS) => L_Cn_draw_58 κ FU v11 v13 (0 : Int32) s15) (nR (rw_ rt q s)) 0 FU FU (fun _ => 0) d1 r1 (by omega) (FUn (by omega)) (FUn (by omega)) hG (hD.fr w1 (fun p j x1 x2 z => by unfold cnW at z; omega)) (rw_fr rfl b3 (fun j z => by omega)) (fun p hp => absurd rfl hp)
  have w2 : Same (fun p _ => cnW Z p) dt d2 := w1.tr (c5.mono (fun p j z => Or.inr (Or.inl z)))
  have cells : gi d2 Z 2 = 0 ∧ gi d2 Z 3 = 1 ∧ ∀ j, j < 5 → gi d2 (Z + 2) j = 0 := ⟨by
    rw [(c5 Z 2 (by omega)).1, (a3 Z 2 (by omega)).1, gi_ui, if_neg (by omega), gi_ui, if_pos ⟨rfl, rfl⟩], by
    rw [(c5 Z 3 (by omega)).1, (a3 Z 3 (by omega)).1, gi_ui, if_pos ⟨rfl, rfl⟩], fun j hj => by
    rw [(c5 (Z + 2) j (by omega)).1]; exact a2 j hj⟩
  have hWI : WI d2 Z (sN (rw_ rt q s) 0) (sN (rw_ rt q s) 1) (fun p => M p % 32) (fun p => M p % 32) (fun _ => 0) := ⟨fun p hp => ⟨Nat.mod_lt _ (by decide), (c3 p hp).2.2.2⟩, cells.1, fun j hj => cells.2.2 j hj, by rw [if_pos rfl]; exact cells.2.1, fun P _ => Nat.zero_add _⟩
  obtain ⟨d3, N3, cc, e1, e2, e3, e4⟩ := d_wipeAll (κ := κ) hk hZ (nR (rw_ rt q s)) 0 FU (fun p => M p % 32) (fun _ => 0) d2 (by omega) (FUn (by omega)) hWI (hD.fr w2 (fun p j x1 x2 z => by unfold cnW at z; omega)) (fun p hp => by
    obtain ⟨r, g1, g2⟩ := c4 p hp
    exact ⟨r, Nat.zero_le _, g1, g2⟩)
  have tot0 : ∀ P : Nat → Bool, P 0 = false → cc P = totG P (fun p => M p % 32) (sN (rw_ rt q s) 0) (sN (rw_ rt q s) 1) := fun P hP => by
    have := e2.2.2.2.2 P hP
    rw [totG_zero (P := P) (N := N3) (fun x y _ _ => e3 _) hP, Nat.add_zero] at this
    exact this
  refine ⟨d3, r2, M, ?_, ?_, fun p hp => by rw [(e2.1 p hp).2, e3]; rfl, fun p hp => ⟨(c3 p hp).1, (c3 p hp).2.1, (c3 p hp).2.2.1⟩, ?_, fun j hj => ?_, ?_, w2.tr e4, b3.tr c6⟩
  · rw [a1]
    show L_Cn_draw_36 κ _ FU Z a (nI 0) d1 = _
    rw [c1]
    exact e1
  · rw [b1]
    exact c2
  · rw [e2.2.1, tot0 cC (by decide)]
  · rw [e2.2.2.1 j hj, tot0 _ (by show (cC 0 && (armN 0 == j)) = false; rw [show cC 0 = false by decide]; rfl)]
  · rw [e2.2.2.2.1, tot0 _ (by decide)]
/-- the reference's way to count -/
def PRD (x2 : Int32) (m : Nat) : Bool := cC m && (decide (x2 = 0) || decide (nI (armN m) = x2) || (decide (x2 = 5) && !flt m))
theorem r_cornL (hM : ∀ p, p < 40401 → M p < 128 ∧ okM (M p) = true ∧ gi rt (q + 16) p = nI (M p)) (h : rw_ rt q s = S) (hk : SOK S) (hs : s < 7) (x2 : Int32) {y : Nat} (hy : y < sN S 1) (k : Nat → Int32 → Int32 → Int32 → Int32 → AS → Option (Int32 × AS)) : ∀ n i d c, i + n = sN S 0 - 1 → n < d →
    L_R_cornersWith_24 κ k d q (nI s) x2 (nI c) (nI y) (nI (i + 1)) rt = k q (nI s) x2 (nI (c + (cnt (fun x => PRD x2 (M (201 * y + (x + 1)) % 32)) (sN S 0 - 1) - cnt (fun x => PRD x2 (M (201 * y + (x + 1)) % 32)) i))) (nI y) rt
  | 0, i, d, c, hi, hd => by
    obtain ⟨d, rfl⟩ : ∃ z, d = z + 1 := ⟨d - 1, by omega⟩
    have c0 := (hk.1.1).cl (by decide)
    have e0 : S 0 = nI (sN S 0) := c0.1
    have l0 : 2 ≤ sN S 0 ∧ sN S 0 ≤ 200 := c0.2
    rw [L_R_cornersWith_24, rs_any (k := 0) (y := 0) h hs (by decide) rfl, bnd_t, e0, if_pos (nI_le (by omega) (by omega)), show i = sN S 0 - 1 by omega, Nat.sub_self, Nat.add_zero]
  | n + 1, i, d, c, hi, hd => by
    obtain ⟨d, rfl⟩ : ∃ z, d = z + 1 := ⟨d - 1, by omega⟩
    have c0 := (hk.1.1).cl (by decide)
    have c1 := (hk.1.2.1).cl (by decide)
    have e0 : S 0 = nI (sN S 0) := c0.1
    have l0 : 2 ≤ sN S 0 ∧ sN S 0 ≤ 200 := c0.2
    have l1 : 2 ≤ sN S 1 ∧ sN S 1 ≤ 200 := c1.2
    have hp : 201 * y + (i + 1) < 40401 := by omega
    obtain ⟨m1, m2, m3⟩ := hM _ hp
    have hcl := cnt_le (fun x => PRD x2 (M (201 * y + (x + 1)) % 32)) (sN S 0 - 1)
    have hmono : cnt (fun x => PRD x2 (M (201 * y + (x + 1)) % 32)) (i + 1) ≤ cnt (fun x => PRD x2 (M (201 * y + (x + 1)) % 32)) (sN S 0 - 1) := by
      rw [show sN S 0 - 1 = (i + 1) + n by omega]
      exact cnt_up _ _ _
    have hs1 := cnt_s (fun x => PRD x2 (M (201 * y + (x + 1)) % 32)) i
    have ih := fun c' => r_cornL hM h hk hs x2 hy k n (i + 1) d c' (by omega) (by omega)
    have goT : PRD x2 (M (201 * y + (i + 1)) % 32) = true → L_R_cornersWith_24 κ k d q (nI s) x2 (nI (c + 1)) (nI y) (nI (i + 1 + 1)) rt = k q (nI s) x2 (nI (c + (cnt (fun x => PRD x2 (M (201 * y + (x + 1)) % 32)) (sN S 0 - 1) - cnt (fun x => PRD x2 (M (201 * y + (x + 1)) % 32)) i))) (nI y) rt := fun hP => by
      rw [ih]
      rw [if_pos hP] at hs1
      congr 2
      omega
    have goF : PRD x2 (M (201 * y + (i + 1)) % 32) = false → L_R_cornersWith_24 κ k d q (nI s) x2 (nI c) (nI y) (nI (i + 1 + 1)) rt = k q (nI s) x2 (nI (c + (cnt (fun x => PRD x2 (M (201 * y + (x + 1)) % 32)) (sN S 0 - 1) - cnt (fun x => PRD x2 (M (201 * y + (x + 1)) % 32)) i))) (nI y) rt := fun hP => by
      rw [ih]
      rw [if_neg (show ¬ PRD x2 (M (201 * y + (i + 1)) % 32) = true by rw [hP]; decide)] at hs1
      congr 2
      omega
    rw [L_R_cornersWith_24, rs_any (k := 0) (y := 0) h hs (by decide) rfl, bnd_t, e0, if_neg (nI_ge (by omega) (by omega)), show (201 : Int32) = nI 201 from rfl, nI_mul, nI_add, grd_t (vp_in_nI hp (by decide)), nI_clamp (by omega), m3, nI_1]
    have ec : f_R_isCorner κ (nI (M (201 * y + (i + 1)))) rt = if cC (M (201 * y + (i + 1)) % 32) = true then 1 else 0 := rp_facts _ m1 m2
    have ea : f_R_armsOf κ (nI (M (201 * y + (i + 1)))) rt = nI (armN (M (201 * y + (i + 1)) % 32)) := (rp_arms _ m1).1
    have ef := (rp_arms _ m1).2
    have z10 : ¬ (1 : Int32) = 0 := by decide
    rw [ec, ea]
    simp only [jn_e, if_true, eq_false z10, if_false]
    rw [Int32.add_zero, nI_1]
    generalize M (201 * y + (i + 1)) = m at *
    by_cases hc : cC (m % 32) = true
    · rw [if_pos hc, if_neg z10]
      by_cases h2 : x2 = 0
      · rw [if_pos h2]
        exact goT (by unfold PRD; rw [hc, decide_eq_true h2]; rfl)
      · rw [if_neg h2]
        by_cases h3 : nI (armN (m % 32)) = x2
        · rw [if_pos h3]
          exact goT (by unfold PRD; rw [hc, decide_eq_true h3, Bool.or_true]; rfl)
        · rw [if_neg h3]
          by_cases h5 : x2 = 5
          · rw [if_pos h5]
            by_cases f : flt (m % 32) = true
            · have hF := goF (by unfold PRD; rw [decide_eq_false h2, decide_eq_false h3, f]; rw [Bool.not_true, Bool.and_false]; exact Bool.and_false _)
              rcases ef.mpr f with f1 | f1 | f1
              · rw [if_pos f1]; exact hF
              · rw [if_pos f1, ite_self]; exact hF
              · rw [if_pos f1, ite_self, ite_self]; exact hF
            · have f' : flt (m % 32) = false := by revert f; cases flt (m % 32) <;> decide
              rw [if_neg (fun z => f (ef.mp (Or.inl z))), if_neg (fun z => f (ef.mp (Or.inr (Or.inl z)))), if_neg (fun z => f (ef.mp (Or.inr (Or.inr z))))]
              exact goT (by unfold PRD; rw [hc, f', decide_eq_true h5, Bool.not_false, Bool.and_true, Bool.or_true]; rfl)
          · rw [if_neg h5]
            exact goF (by unfold PRD; rw [decide_eq_false h2, decide_eq_false h3, decide_eq_false h5]; exact Bool.and_false _)
    · rw [if_neg hc, if_pos rfl]
      have hc' : cC (m % 32) = false := by revert hc; cases cC (m % 32) <;> decide
      exact goF (by unfold PRD; rw [hc']; rfl)
theorem sumF_up (f : Nat → Nat) (i : Nat) : ∀ n, sumF f i ≤ sumF f (i + n)
  | 0 => Nat.le_refl _
  | n + 1 => Nat.le_trans (sumF_up f i n) (by rw [← Nat.add_assoc, sumF]; exact Nat.le_add_right _ _)
theorem r_cornO (hM : ∀ p, p < 40401 → M p < 128 ∧ okM (M p) = true ∧ gi rt (q + 16) p = nI (M p)) (h : rw_ rt q s = S) (hk : SOK S) (hs : s < 7) (x2 : Int32) : ∀ n i d c, i + n = sN S 1 - 1 → n < d →
    L_R_cornersWith_10 κ d q (nI s) x2 (nI c) (nI (i + 1)) rt = some (nI (c + (totG (PRD x2) (fun p => M p % 32) (sN S 0) (sN S 1) - sumF (fun y => cnt (fun x => PRD x2 (M (201 * (y + 1) + (x + 1)) % 32)) (sN S 0 - 1)) i)), rt)
  | 0, i, d, c, hi, hd => by
    obtain ⟨d, rfl⟩ : ∃ z, d = z + 1 := ⟨d - 1, by omega⟩
    have c1 := (hk.1.2.1).cl (by decide)
    have e1 : S 1 = nI (sN S 1) := c1.1
    have l1 : 2 ≤ sN S 1 ∧ sN S 1 ≤ 200 := c1.2
    rw [L_R_cornersWith_10, rs_any (k := 1) (y := 1) h hs (by decide) rfl, bnd_t, e1, if_pos (nI_le (by omega) (by omega)), show i = sN S 1 - 1 by omega]
    unfold totG
    rw [Nat.sub_self, Nat.add_zero]
  | n + 1, i, d, c, hi, hd => by
    obtain ⟨d, rfl⟩ : ∃ z, d = z + 1 := ⟨d - 1, by omega⟩
    have c0 := (hk.1.1).cl (by decide)
    have c1 := (hk.1.2.1).cl (by decide)
    have e1 : S 1 = nI (sN S 1) := c1.1
    have l0 : 2 ≤ sN S 0 ∧ sN S 0 ≤ 200 := c0.2
    have l1 : 2 ≤ sN S 1 ∧ sN S 1 ≤ 200 := c1.2
    have hin := r_cornL (κ := κ) hM h hk hs x2 (y := i + 1) (by omega) (fun (v21 : Nat) (v23 : Int32) (v24 : Int32) (v25 : Int32) (v26 : Int32) (s27 : AS) => L_R_cornersWith_10 κ d v21 v23 v24 v25 (v26 + 1) s27) (sN S 0 - 1) 0 FU c (by omega) (FUn (by omega))
    rw [L_R_cornersWith_10, rs_any (k := 1) (y := 1) h hs (by decide) rfl, bnd_t, e1, if_neg (nI_ge (by omega) (by omega))]
    refine Eq.trans hin ?_
    show L_R_cornersWith_10 κ d q (nI s) x2 _ (nI (i + 1) + 1) rt = _
    rw [nI_1, r_cornO hM h hk hs x2 n (i + 1) d _ (by omega) (by omega)]
    have u1 := sumF_up (fun y => cnt (fun x => PRD x2 (M (201 * (y + 1) + (x + 1)) % 32)) (sN S 0 - 1)) (i + 1) n
    rw [show (i + 1) + n = sN S 1 - 1 by omega] at u1
    have u2 : totG (PRD x2) (fun p => M p % 32) (sN S 0) (sN S 1) = sumF (fun y => cnt (fun x => PRD x2 (M (201 * (y + 1) + (x + 1)) % 32)) (sN S 0 - 1)) (sN S 1 - 1) := rfl
    rw [u2]
    have u3 : sumF (fun y => cnt (fun x => PRD x2 (M (201 * (y + 1) + (x + 1)) % 32)) (sN S 0 - 1)) (i + 1) = sumF (fun y => cnt (fun x => PRD x2 (M (201 * (y + 1) + (x + 1)) % 32)) (sN S 0 - 1)) i + cnt (fun x => PRD x2 (M (201 * (i + 1) + (x + 1)) % 32)) (sN S 0 - 1) := rfl
    have u4 : cnt (fun x => PRD x2 (M (201 * (i + 1) + (x + 1)) % 32)) 0 = 0 := rfl
    rw [u4, Nat.sub_zero]
    congr 3
    omega
theorem r_corners {rt1 : AS} (hm : f_R_marks κ q (nI s) rt = some rt1) (hM : ∀ p, p < 40401 → M p < 128 ∧ okM (M p) = true ∧ gi rt1 (q + 16) p = nI (M p)) (h : rw_ rt1 q s = S) (hk : SOK S) (hs : s < 7) (x2 : Int32) : f_R_cornersWith κ q (nI s) x2 rt = some (nI (totG (PRD x2) (fun p => M p % 32) (sN S 0) (sN S 1)), rt1) := by
  unfold f_R_cornersWith
  rw [hm, bnd_t]
  have := r_cornO (κ := κ) hM h hk hs x2 (sN S 1 - 1) 0 FU 0 (by omega) (FUn (by have := ((hk.1.2.1).cl (by decide)).2.2; unfold sN; omega))
  rw [show sumF (fun y => cnt (fun x => PRD x2 (M (201 * (y + 1) + (x + 1)) % 32)) (sN S 0 - 1)) 0 = 0 from rfl, Nat.sub_zero, Nat.zero_add (totG _ _ _ _)] at this
  exact this
theorem totG_eq {P Q : Nat → Bool} {N : Nat → Nat} {W H : Nat} (h : ∀ m, P m = Q m) : totG P N W H = totG Q N W H := by
  have : P = Q := funext h
  rw [this]
theorem sumF_le {f : Nat → Nat} {b : Nat} : ∀ n, (∀ i, i < n → f i ≤ b) → sumF f n ≤ n * b
  | 0, _ => Nat.zero_le _
  | n + 1, h => by
    have := sumF_le n (fun i hi => h i (by omega))
    have h2 := h n (by omega)
    rw [sumF, Nat.add_mul, Nat.one_mul]
    omega
theorem totG_le (P : Nat → Bool) (N : Nat → Nat) {W H : Nat} (hW : W ≤ 200) (hH : H ≤ 200) : totG P N W H ≤ 40000 := by
  unfold totG
  have h1 := sumF_le (b := 200) (f := fun y => cnt (fun x => P (N (201 * (y + 1) + (x + 1)))) (W - 1)) (H - 1) (fun i _ => Nat.le_trans (cnt_le _ _) (by omega))
  have h2 : (H - 1) * 200 ≤ 200 * 200 := Nat.mul_le_mul_right _ (by omega)
  omega
theorem prd0 (m : Nat) : PRD 0 m = cC m := by
  unfold PRD
  rw [decide_eq_true (show (0 : Int32) = 0 from rfl), Bool.true_or, Bool.true_or, Bool.and_true]
theorem armN_lt (m : Nat) : armN m < 5 := by unfold armN; omega
theorem prdA {j : Nat} (h1 : 2 ≤ j) (h2 : j < 5) (m : Nat) : PRD (nI j) m = (cC m && (armN m == j)) := by
  unfold PRD
  have ha := armN_lt m
  have e0 : ¬ nI j = 0 := fun z => by have := (nI_eq (b := 0) (by omega) (by decide)).mp z; omega
  have e5 : ¬ nI j = 5 := fun z => by have := (nI_eq (b := 5) (by omega) (by decide)).mp z; omega
  rw [decide_eq_false e0, decide_eq_false e5, Bool.false_or, Bool.false_and, Bool.or_false]
  congr 1
  by_cases e : armN m = j
  · rw [e, decide_eq_true rfl, beq_self_eq_true]
  · rw [decide_eq_false (fun z => e ((nI_eq (by omega) (by omega)).mp z)), beq_eq_false_iff_ne.mpr e]
theorem prd5 (m : Nat) : PRD 5 m = (cC m && !flt m) := by
  unfold PRD
  have ha := armN_lt m
  rw [decide_eq_false (show ¬ (5 : Int32) = 0 by decide), decide_eq_false (show ¬ nI (armN m) = 5 from fun z => by have := (nI_eq (b := 5) (by omega) (by decide)).mp z; omega), decide_eq_true (show (5 : Int32) = 5 from rfl)]
  rfl
end Corner2
