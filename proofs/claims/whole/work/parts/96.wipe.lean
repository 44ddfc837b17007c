/-! corners: all ridges drawn; what the class counts as it wipes them out -/
/-- a point of a ridge -/
def onR (S : Nat → Int32) (r p : Nat) : Prop := ∃ j, rN S r 2 ≤ j ∧ j ≤ rN S r 3 ∧ p = ptN (rN S r 0) (rN S r 1) j
section Wipe
variable {κ : Ko} {dt rt : AS} {a q s r Z : Nat} {S : Nat → Int32} {M : Nat → Nat}
theorem way0 {w : Nat} (hw : w < 2) : ((nI w = 0) = (w = 0)) := propext (nI_eq (b := 0) (by omega) (by omega))
theorem q_markAll (hk : SOK S) (hs : s < 7) (hZ : Z + 2 < a ∨ a + 3 < Z) (k : Nat → Nat → AS → Option AS) : ∀ n i d d' M dt rt, i + n = nR S → n < d → n < d' → GRD dt rt Z q M → ShD κ dt a S → rw_ rt q s = S → (∀ p, M p % 32 ≠ 0 → ∃ r, r < i ∧ onR S r p) →
    ∃ dt2 rt2 M', L_Cn_draw_36 κ k d Z a (nI i) dt = k Z a dt2 ∧ L_R_marks_23 κ d' q (nI s) (nI i) rt = some rt2 ∧ GRD dt2 rt2 Z q M' ∧ (∀ p, M' p % 32 ≠ 0 → ∃ r, r < nR S ∧ onR S r p) ∧ Same (fun p _ => p = Z + 1) dt dt2 ∧ Same (fun p _ => p = q + 16) rt rt2
  | 0, i, d, d', M, dt, rt, hi, hd, hd', hG, hD, hR, hsup => by
    obtain ⟨d, rfl⟩ : ∃ z, d = z + 1 := ⟨d - 1, by omega⟩
    obtain ⟨d', rfl⟩ : ∃ z, d' = z + 1 := ⟨d' - 1, by omega⟩
    have h7 := sok_7 hk
    have ec : f_Sh_ridgeCount κ a dt = nI (nR S) := by
      show gi dt a 12 = _
      rw [hD.2.1.2.2.2.2.2.2.1]; exact h7.1
    rw [L_Cn_draw_36, L_R_marks_23, ec, if_pos (nI_le (by omega) (by omega)), rs_any (k := 7) (y := 7) hR hs (by decide) rfl, bnd_t, h7.1, if_pos (nI_le (by omega) (by omega))]
    exact ⟨dt, rt, M, rfl, rfl, hG, fun p hp => by obtain ⟨r, h1, h2⟩ := hsup p hp; exact ⟨r, by omega, h2⟩, Same.rf _ _, Same.rf _ _⟩
  | n + 1, i, d, d', M, dt, rt, hi, hd, hd', hG, hD, hR, hsup => by
    obtain ⟨d, rfl⟩ : ∃ z, d = z + 1 := ⟨d - 1, by omega⟩
    obtain ⟨d', rfl⟩ : ∃ z, d' = z + 1 := ⟨d' - 1, by omega⟩
    have h7 := sok_7 hk
    have hi' : i < nR S := by omega
    have ec : f_Sh_ridgeCount κ a dt = nI (nR S) := by
      show gi dt a 12 = _
      rw [hD.2.1.2.2.2.2.2.2.1]; exact h7.1
    obtain ⟨h1, h2, h3, h4, h5, h6, h8, h9, h10⟩ := ridge_n hk hi'
    have h200 : rN S i 3 ≤ 200 := by have := hk.2.2.1 i hi'; exact (this.2.2.2.1.cl (by decide)).2.2
    obtain ⟨d2, r2, M2, z1, z2, z3, z4, z5, z6⟩ := q_markL (κ := κ) (q := q) (s := s) hk hs hi' hZ (fun v40 v42 v43 s44 => L_R_marks_23 κ d' v40 v42 (v43 + 1) s44) (rN S i 3 + 1 - rN S i 2) (rN S i 2) FU FU M dt rt (by omega) (FUn (by omega)) (FUn (by omega)) (Nat.le_refl _) hG hD hR
    obtain ⟨d3, r3, M3, y1, y2, y3, y4, y5, y6⟩ := q_markAll hk hs hZ k n (i + 1) d d' M2 d2 r2 (by omega) (by omega) (by omega) z3 (hD.fr z5 (fun p j x1 x2 z => by omega)) (rw_fr hR z6 (fun j z => by omega)) (fun p hp => by
      rcases z4 p hp with z | z
      · obtain ⟨r, g1, g2⟩ := hsup p z; exact ⟨r, by omega, g2⟩
      · exact ⟨i, by omega, z⟩)
    refine ⟨d3, r3, M3, ?_, ?_, y3, y4, z5.tr y5, z6.tr y6⟩
    · rw [L_Cn_draw_36, ec, if_neg (nI_ge hi' (by omega))]
      unfold f_Cn_drawRidge
      rw [rdRn hD hk hi' (u := 0) (y := 0) (by decide) rfl, bnd_t, rdRn hD hk hi' (u := 2) (y := 2) (by decide) rfl, bnd_t, rdRn hD hk hi' (u := 3) (y := 3) (by decide) rfl, bnd_t]
      simp only [way0 h1]
      rw [z1, bnd_t, nI_1]
      exact y1
    · rw [L_R_marks_23, rs_any (k := 7) (y := 7) hR hs (by decide) rfl, bnd_t, h7.1, if_neg (nI_ge hi' (by omega)), rrRn hR hs hk hi' (u := 0) (y := 0) (by decide) rfl, bnd_t, rrRn hR hs hk hi' (u := 2) (y := 2) (by decide) rfl, bnd_t, rrRn hR hs hk hi' (u := 3) (y := 3) (by decide) rfl, bnd_t, z2, nI_1]
      exact y2
/-- what the class has counted so far -/
def WI (dt : AS) (Z W H : Nat) (N0 N : Nat → Nat) (c : (Nat → Bool) → Nat) : Prop := (∀ p, p < 40401 → N p < 32 ∧ gi dt (Z + 1) p = nI (N p)) ∧ gi dt Z 2 = nI (c cC) ∧ (∀ j, j < 5 → gi dt (Z + 2) j = nI (c (fun m => cC m && (armN m == j)))) ∧ gi dt Z 3 = (if c (fun m => cC m && !flt m) = 0 then 1 else 0) ∧ ∀ P, P 0 = false → c P + totG P N W H = totG P N0 W H
theorem WI.out {W H p : Nat} {N0 N : Nat → Nat} {c : (Nat → Bool) → Nat} (h : WI dt Z W H N0 N c) (hp : p < 40401) (ho : ∀ x y, x < W - 1 → y < H - 1 → 201 * (y + 1) + (x + 1) ≠ p) : WI (ui dt (Z + 1) p 0) Z W H N0 (updN N p 0) c := by
  obtain ⟨h1, h2, h3, h4, h5⟩ := h
  refine ⟨fun j hj => ?_, by rw [gi_ui, if_neg (by omega)]; exact h2, fun j hj => by rw [gi_ui, if_neg (by omega)]; exact h3 j hj, by rw [gi_ui, if_neg (by omega)]; exact h4, fun P hP => by rw [totG_out ho]; exact h5 P hP⟩
  by_cases e : j = p
  · rw [e, updN_eq, gi_ui, if_pos ⟨rfl, rfl⟩]; exact ⟨by decide, rfl⟩
  · rw [updN_ne e, gi_ui, if_neg (fun z => e z.2)]; exact h1 j hj
theorem WI.in_ {W H x0 y0 : Nat} {N0 N : Nat → Nat} {c : (Nat → Bool) → Nat} (h : WI dt Z W H N0 N c) (hx : x0 < W - 1) (hy : y0 < H - 1) (hW : W ≤ 200) (hp : 201 * (y0 + 1) + (x0 + 1) < 40401) : ∃ c', WI (ui (f_Cn_countPoint κ Z (nI (N (201 * (y0 + 1) + (x0 + 1)))) dt) (Z + 1) (201 * (y0 + 1) + (x0 + 1)) 0) Z W H N0 (updN N (201 * (y0 + 1) + (x0 + 1)) 0) c' := by
  obtain ⟨h1, h2, h3, h4, h5⟩ := h
  generalize hP : 201 * (y0 + 1) + (x0 + 1) = p at *
  have hm := (h1 p hp).1
  generalize hN : N p = m at *
  have htot : ∀ P : Nat → Bool, P 0 = false → totG P (updN N p 0) W H + (if P m = true then 1 else 0) = totG P N W H := fun P h0 => by
    have := totG_in (P := P) (N := N) hx hy hW h0
    rw [hP, hN] at this
    exact this
  have ha := (cp_facts m hm).2.1
  rw [countP hm]
  have grid : ∀ st, (∀ j, gi st (Z + 1) j = gi dt (Z + 1) j) → ∀ j, j < 40401 → updN N p 0 j < 32 ∧ gi (ui st (Z + 1) p 0) (Z + 1) j = nI (updN N p 0 j) := fun st hst j hj => by
    by_cases e : j = p
    · rw [e, updN_eq, gi_ui, if_pos ⟨rfl, rfl⟩]; exact ⟨by decide, rfl⟩
    · rw [updN_ne e, gi_ui, if_neg (fun z => e z.2), hst]; exact h1 j hj
  obtain ⟨c1, hc1⟩ : ∃ c1 : (Nat → Bool) → Nat, ∀ P, c1 P = c P + (if P m = true then 1 else 0) := ⟨fun P => c P + (if P m = true then 1 else 0), fun _ => rfl⟩
  have cT : ∀ P : Nat → Bool, P m = true → c1 P = c P + 1 := fun P hP => by rw [hc1, if_pos hP]
  have cF : ∀ P : Nat → Bool, ¬ P m = true → c1 P = c P := fun P hP => by rw [hc1, if_neg hP, Nat.add_zero]
  refine ⟨c1, ?_⟩
  have h5' : ∀ P : Nat → Bool, P 0 = false → c1 P + totG P (updN N p 0) W H = totG P N0 W H := fun P h0 => by
    have e1 := htot P h0
    have e2 := h5 P h0
    rw [hc1]
    omega
  by_cases hc : cC m = true
  · rw [if_pos hc]
    unfold cpS
    rw [gput_n (j := armN m) rfl (by omega) (by decide), gat_n (j := armN m) rfl (by omega) (by decide)]
    refine ⟨grid _ (fun j => by rw [gi_ui, if_neg (by omega), gi_ui, if_neg (by omega), gi_ui, if_neg (by omega)]), ?_, fun j hj => ?_, ?_, h5'⟩
    · rw [gi_ui, if_neg (by omega), gi_ui, if_neg (by omega), gi_ui, if_neg (by omega), gi_ui, if_pos ⟨rfl, rfl⟩, h2, nI_1, cT cC hc]
    · rw [gi_ui, if_neg (by omega), gi_ui, if_neg (by omega), gi_ui]
      by_cases e : j = armN m
      · have hP : (fun m' => cC m' && (armN m' == j)) m = true := by
          show (cC m && (armN m == j)) = true
          rw [hc, e, beq_self_eq_true]; rfl
        rw [cT _ hP, if_pos ⟨rfl, e⟩, gi_ui, if_neg (by omega), h3 (armN m) ha, nI_1, e]
      · have hP : ¬ (fun m' => cC m' && (armN m' == j)) m = true := by
          show ¬ (cC m && (armN m == j)) = true
          rw [hc, Bool.true_and, beq_iff_eq]; exact fun z => e z.symm
        rw [cF _ hP, if_neg (fun z => e z.2), gi_ui, if_neg (by omega), h3 j hj]
    · rw [gi_ui, if_neg (by omega), gi_ui, if_pos ⟨rfl, rfl⟩, h4]
      by_cases f : flt m = true
      · have hP : ¬ (fun m' => cC m' && !flt m') m = true := by
          show ¬ (cC m && !flt m) = true
          rw [hc, f]; decide
        rw [cF _ hP, if_pos f]
        by_cases e : c (fun m => cC m && !flt m) = 0
        · rw [if_pos e, if_neg (by decide)]
        · rw [if_neg e, if_pos rfl]
      · have f' : flt m = false := by revert f; cases flt m <;> decide
        have hP : (fun m' => cC m' && !flt m') m = true := by
          show (cC m && !flt m) = true
          rw [hc, f']; rfl
        rw [cT _ hP, if_neg f, ite_self, if_neg (show ¬ c (fun m => cC m && !flt m) + 1 = 0 by omega)]
  · rw [if_neg hc]
    have hc' : cC m = false := by revert hc; cases cC m <;> decide
    refine ⟨grid _ (fun _ => rfl), ?_, fun j hj => ?_, ?_, h5'⟩
    · rw [gi_ui, if_neg (by omega), h2, cF _ hc]
    · have hP : ¬ (fun m' => cC m' && (armN m' == j)) m = true := by
        show ¬ (cC m && (armN m == j)) = true
        rw [hc', Bool.false_and]; decide
      rw [gi_ui, if_neg (by omega), h3 j hj, cF _ hP]
    · have hP : ¬ (fun m' => cC m' && !flt m') m = true := by
        show ¬ (cC m && !flt m) = true
        rw [hc', Bool.false_and]; decide
      rw [gi_ui, if_neg (by omega), h4, cF _ hP]
theorem countP_same (x : Int32) (st : AS) : Same (fun p _ => p = Z ∨ p = Z + 2) st (f_Cn_countPoint κ Z x st) := by
  unfold f_Cn_countPoint
  simp only [jn_e]
  have b : ∀ v y, Same (fun p _ => p = Z ∨ p = Z + 2) st (ui (gput (ui st Z 2 (gi st Z 2 + 1)) (Z + 2) 5 (f_Ji_bitCount κ (x &&& 15) st) y) Z 3 v) := fun v y => (((Same.rf _ st).ui (Or.inl rfl)).gput (fun _ => Or.inr rfl)).ui (Or.inl rfl)
  have e := Same.rf (fun p _ => p = Z ∨ p = Z + 2) st
  (repeat' split) <;> first | exact e | exact b _ _
/-- where a point of a ridge lies -/
theorem pt_out (hk : SOK S) (hr : r < nR S) {i : Nat} (hi : i ≤ rN S r 3) (h : i = 0 ∨ sN S (1 - rN S r 0) ≤ i) : ∀ x y, x < sN S 0 - 1 → y < sN S 1 - 1 → 201 * (y + 1) + (x + 1) ≠ ptN (rN S r 0) (rN S r 1) i := by
  obtain ⟨h1, h2, h3, h4, h5, h6, h7, h8, h9⟩ := ridge_n hk hr
  intro x y hx hy
  have hc : rN S r 0 = 0 ∨ rN S r 0 = 1 := by omega
  unfold ptN
  rcases hc with e | e
  · rw [e] at h3 h5 h ⊢
    rw [if_pos rfl]
    have : sN S (1 - 0) = sN S 1 := rfl
    omega
  · rw [e] at h3 h5 h ⊢
    rw [if_neg (by decide)]
    have : sN S (1 - 1) = sN S 0 := rfl
    omega
theorem pt_in (hk : SOK S) (hr : r < nR S) {i : Nat} (h0 : 0 < i) (h : i < sN S (1 - rN S r 0)) : ∃ x y, x < sN S 0 - 1 ∧ y < sN S 1 - 1 ∧ 201 * (y + 1) + (x + 1) = ptN (rN S r 0) (rN S r 1) i := by
  obtain ⟨h1, h2, h3, h4, h5, h6, h7, h8, h9⟩ := ridge_n hk hr
  have hc : rN S r 0 = 0 ∨ rN S r 0 = 1 := by omega
  unfold ptN
  rcases hc with e | e
  · rw [e] at h3 h ⊢
    rw [if_pos rfl]
    have : sN S (1 - 0) = sN S 1 := rfl
    exact ⟨rN S r 1 - 1, i - 1, by omega, by omega, by omega⟩
  · rw [e] at h3 h ⊢
    rw [if_neg (by decide)]
    have : sN S (1 - 1) = sN S 0 := rfl
    exact ⟨i - 1, rN S r 1 - 1, by omega, by omega, by omega⟩
def cnW (Z p : Nat) : Prop := p = Z ∨ p = Z + 1 ∨ p = Z + 2
theorem d_wipeL (hk : SOK S) (hr : r < nR S) (hZ : Z + 2 < a ∨ a + 3 < Z) {N0 : Nat → Nat} : ∀ n i d N c dt, i + n = rN S r 3 + 1 → n < d → WI dt Z (sN S 0) (sN S 1) N0 N c → ShD κ dt a S →
    ∃ dt2 N' c', L_Cn_wipeRidge_39 κ d Z a (nI r) (nI (sN S (1 - rN S r 0))) (nI (rN S r 3)) (nI i) dt = some dt2 ∧ WI dt2 Z (sN S 0) (sN S 1) N0 N' c' ∧ (∀ p, N' p ≠ 0 → N p ≠ 0 ∧ ∀ j, i ≤ j → j ≤ rN S r 3 → p ≠ ptN (rN S r 0) (rN S r 1) j) ∧ Same (fun p _ => cnW Z p) dt dt2
  | 0, i, d, N, c, dt, hi, hd, hW, hD => by
    obtain ⟨d, rfl⟩ : ∃ z, d = z + 1 := ⟨d - 1, by omega⟩
    have h200 : rN S r 3 ≤ 200 := by have := hk.2.2.1 r hr; exact (this.2.2.2.1.cl (by decide)).2.2
    rw [L_Cn_wipeRidge_39, if_pos ((nI_ltI (by omega) (by omega)).mpr (by omega))]
    exact ⟨dt, N, c, rfl, hW, fun p hp => ⟨hp, fun j h1 h2 => by omega⟩, Same.rf _ _⟩
  | n + 1, i, d, N, c, dt, hi, hd, hW, hD => by
    obtain ⟨d, rfl⟩ : ∃ z, d = z + 1 := ⟨d - 1, by omega⟩
    obtain ⟨h1, h2, h3, h4, h5, h6, h7, h8, h9⟩ := ridge_n hk hr
    have h200 : rN S r 3 ≤ 200 := by have := hk.2.2.1 r hr; exact (this.2.2.2.1.cl (by decide)).2.2
    have hs200 : sN S (1 - rN S r 0) ≤ 200 := by
      have hc : rN S r 0 = 0 ∨ rN S r 0 = 1 := by omega
      rcases hc with e | e <;> rw [e]
      · exact h7
      · exact h6
    have hp := pt_lt hk hr (i := i) (by omega)
    have q1 : (nI i ≤ 0) = (i = 0) := propext ((nI_leI (b := 0) (by omega) (by omega)).trans Nat.le_zero)
    have q2 : (nI (sN S (1 - rN S r 0)) ≤ nI i) = (sN S (1 - rN S r 0) ≤ i) := propext (nI_leI (by omega) (by omega))
    rw [L_Cn_wipeRidge_39, if_neg (fun z => by have := (nI_ltI (by omega) (by omega)).mp z; omega), pointOf_n hD hk hr i, bnd_t]
    simp only [jn_e, q1, q2]
    have go : ∀ s1 c', Same (fun p _ => cnW Z p) dt s1 → WI (ui s1 (Z + 1) (ptN (rN S r 0) (rN S r 1) i) 0) Z (sN S 0) (sN S 1) N0 (updN N (ptN (rN S r 0) (rN S r 1) i) 0) c' → ∃ dt2 N' c', L_Cn_wipeRidge_39 κ d Z a (nI r) (nI (sN S (1 - rN S r 0))) (nI (rN S r 3)) (nI i + 1) (gput s1 (Z + 1) 40401 (nI (ptN (rN S r 0) (rN S r 1) i)) 0) = some dt2 ∧ WI dt2 Z (sN S 0) (sN S 1) N0 N' c' ∧ (∀ p, N' p ≠ 0 → N p ≠ 0 ∧ ∀ j, i ≤ j → j ≤ rN S r 3 → p ≠ ptN (rN S r 0) (rN S r 1) j) ∧ Same (fun p _ => cnW Z p) dt dt2 := fun s1 c' hs1 hw1 => by
      have hs2 : Same (fun p _ => cnW Z p) dt (ui s1 (Z + 1) (ptN (rN S r 0) (rN S r 1) i) 0) := hs1.ui (Or.inr (Or.inl rfl))
      obtain ⟨d2, N2, c2, z1, z2, z3, z4⟩ := d_wipeL hk hr hZ n (i + 1) d _ _ _ (by omega) (by omega) hw1 (hD.fr hs2 (fun p j x1 x2 z => by unfold cnW at z; omega))
      rw [gput_n (j := ptN (rN S r 0) (rN S r 1) i) rfl hp (by decide), nI_1]
      refine ⟨d2, N2, c2, z1, z2, fun p hp' => ?_, hs2.tr z4⟩
      obtain ⟨y1, y2⟩ := z3 p hp'
      by_cases e : p = ptN (rN S r 0) (rN S r 1) i
      · rw [e, updN_eq] at y1
        exact absurd rfl y1
      · rw [updN_ne e] at y1
        exact ⟨y1, fun j g1 g2 => by
          by_cases ej : j = i
          · rw [ej]; exact e
          · exact y2 j (by omega) g2⟩
    by_cases i0 : i = 0
    · rw [if_pos i0]
      exact go dt c (Same.rf _ _) (hW.out hp (pt_out hk hr (by omega) (Or.inl i0)))
    · rw [if_neg i0]
      by_cases i1 : sN S (1 - rN S r 0) ≤ i
      · rw [if_pos i1]
        exact go dt c (Same.rf _ _) (hW.out hp (pt_out hk hr (by omega) (Or.inr i1)))
      · rw [if_neg i1, gat_n (j := ptN (rN S r 0) (rN S r 1) i) rfl hp (by decide), (hW.1 _ hp).2]
        obtain ⟨x, y, hx, hy, hxy⟩ := pt_in hk hr (i := i) (by omega) (by omega)
        obtain ⟨c', hc'⟩ := hW.in_ (κ := κ) hx hy h6 (by rw [hxy]; exact hp)
        rw [hxy] at hc'
        exact go _ c' ((countP_same _ _).mono (fun p j z => by unfold cnW; omega)) hc'
end Wipe
