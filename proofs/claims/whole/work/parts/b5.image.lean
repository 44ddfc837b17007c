/-! images: both classes -/
theorem SHT.ext {κ : Ko} {dt : AS} {a c : Nat} {S S' : Nat → Int32} (h : SHT κ dt a S c) (e : ∀ k, k < 3680 → S' k = S k) : SHT κ dt a S' c := by
  obtain ⟨g1, g2, g3, g4, g5⟩ := h
  exact ⟨g1.ext e (sok_6 g2).2.1 (sok_7 g2).2 ((g2.1.2.2.2.2.2.1).cl (by decide)).2.2, sok_ext g2 e, uok_ext g2 g3 e, by rw [e 3 (by decide)]; exact g4, by rw [e 2 (by decide)]; exact g5⟩
theorem ly_I {κ : Ko} {k i : Nat} (hk : k < 4) (hi : i < 6) : ly κ (IA κ k i) = (8, 14) := by
  have e : IA κ k i = kB (kt κ) + (234 + 32 * k + 5 * i) := by unfold IA; omega
  unfold ly lay
  rw [e, if_pos (by omega), Nat.add_sub_cancel_left]
  exact (show ∀ k, k < 4 → ∀ i, i < 6 → layL.getD (234 + 32 * k + 5 * i) (999, 0) = (8, 14) by decide +kernel) k hk i hi
theorem ly_P {κ : Ko} {k : Nat} (hk : k < 4) : ly κ (PA κ k) = (5, 3) := by
  have e : PA κ k = kB (kt κ) + (232 + 32 * k) := by unfold PA; omega
  unfold ly lay
  rw [e, if_pos (by omega), Nat.add_sub_cancel_left]
  exact (show ∀ k, k < 4 → layL.getD (232 + 32 * k) (999, 0) = (5, 3) by decide +kernel) k hk
section Image
variable {κ : Ko} {C : Nat → Nat} {n m : Nat} {T : Nat → Nat} {dt rt : AS}
def plW (A0 : Nat → Nat) (a0 p j : Nat) : Prop := (∃ i, i < 6 ∧ A0 i ≤ p ∧ p < A0 i + 5) ∨ p = a0 ∧ (j = 1 ∨ j = 2)
theorem d_plikeL {a0 a1 : Nat} {A0 A1 : Nat → Nat} {S : Nat → Nat → Int32} {N c : Nat} (hN : N ≤ 6) (hna : a0 ≠ a1) (hy : ∀ i, i < 6 → ly κ (A0 i) = (8, 14)) (hs : ∀ i j, i < 6 → j < 6 → A0 i + 4 < A1 j ∨ A1 j + 4 < A0 i) (h00 : ∀ i j, i < 6 → j < 6 → i ≠ j → A0 i + 4 < A0 j ∨ A0 j + 4 < A0 i) (hcell : ∀ i, i < 6 → ∀ p, A0 i ≤ p → p ≤ A0 i + 4 → p ≠ a0 ∧ p ≠ a0 + 1 ∧ p ≠ a1 ∧ p ≠ a1 + 1) :
    ∀ k i d dt, i + k = N → k < d → (∀ j, j < 6 → gr dt (a0 + 1) j = some (A0 j)) → (∀ j, j < 6 → gr dt (a1 + 1) j = some (A1 j)) → gi dt a1 1 = nI N → (∀ j, j < N → SHT κ dt (A1 j) (S j) c) → (∀ j, j < i → SHT κ dt (A0 j) (S j) c) →
    ∃ dt', L_Pl_becomeLike_2 κ d a0 a1 (nI i) dt = some dt' ∧ gi dt' a0 1 = nI N ∧ gi dt' a0 2 = 1 ∧ (∀ j, j < N → SHT κ dt' (A0 j) (S j) c) ∧ Same (plW A0 a0) dt dt'
  | 0, i, d, dt, hi, hd, h0, h1, h2, h3, h4 => by
    obtain ⟨d, rfl⟩ : ∃ z, d = z + 1 := ⟨d - 1, by omega⟩
    rw [L_Pl_becomeLike_2, h2, if_pos (nI_le (by omega) (by omega))]
    have w : Same (fun p j => p = a0 ∧ (j = 1 ∨ j = 2)) dt (ui (ui dt a0 1 (nI N)) a0 2 1) := ((Same.rf _ dt).ui ⟨rfl, Or.inl rfl⟩).ui ⟨rfl, Or.inr rfl⟩
    exact ⟨_, rfl, by rw [gi_ui, if_neg (by omega), gi_ui, if_pos ⟨rfl, rfl⟩], by rw [gi_ui, if_pos ⟨rfl, rfl⟩], fun j hj => (h4 j (by omega)).fr w (fun p q x1 x2 z => (hcell j (by omega) p x1 (by omega)).1 z.1), w.mono (fun p j z => Or.inr z)⟩
  | k + 1, i, d, dt, hi, hd, h0, h1, h2, h3, h4 => by
    obtain ⟨d, rfl⟩ : ∃ z, d = z + 1 := ⟨d - 1, by omega⟩
    have hi6 : i < 6 := by omega
    have hS := h3 i (by omega)
    obtain ⟨d1, a1', a2, a3, a4⟩ := d_like hS.1 (hy i hi6) (hs i i hi6 hi6) hS.2.1
    have nd : ∀ {p : Nat}, A0 i ≤ p ∧ p < A0 i + 5 → p ≠ a0 ∧ p ≠ a0 + 1 ∧ p ≠ a1 ∧ p ≠ a1 + 1 := fun {p} z => hcell i hi6 p z.1 (by omega)
    obtain ⟨d2, z1, z2, z3, z4, z5⟩ := d_plikeL hN hna hy hs h00 hcell k (i + 1) d d1 (by omega) (by omega) (fun j hj => by rw [(a4 _ _ (fun z => (nd z).2.1 rfl)).2.2]; exact h0 j hj) (fun j hj => by rw [(a4 _ _ (fun z => (nd z).2.2.2 rfl)).2.2]; exact h1 j hj) (by rw [(a4 _ _ (fun z => (nd z).2.2.1 rfl)).1]; exact h2) (fun j hj => (h3 j hj).fr a4 (fun p q x1 x2 z => by have := hs i j hi6 (by omega); omega)) (fun j hj => by
      by_cases e : j = i
      · rw [e]; exact ⟨a2, hS.2.1, hS.2.2.1, by rw [a3]; exact hS.2.2.2.1, hS.2.2.2.2⟩
      · exact (h4 j (by omega)).fr a4 (fun p q x1 x2 z => by have := h00 i j hi6 (by omega) (fun y => e y.symm); omega))
    have n6 : ¬ (6 : Int32) ≤ nI i := nI_ge (b := 6) hi6 (by decide)
    rw [L_Pl_becomeLike_2, h2, if_neg (nI_ge (by omega) (by omega)), if_neg n6, if_neg n6, grd_t (vp_in_nI hi6 (by decide)), nI_clamp (by omega), h0 i hi6, bnd_t, grd_t (hy i hi6), grd_t (vp_in_nI hi6 (by decide)), h1 i hi6, bnd_t, grd_t hS.1.1, a1', bnd_t, nI_1]
    exact ⟨d2, z1, z2, z3, z4, (a4.mono (fun p j z => Or.inl ⟨i, hi6, z⟩)).tr z5⟩
theorem r_imgL {k : Nat} (hk : k < 4) (rt0 : AS) : ∃ rt', L_R_image_33 κ FU (QQ κ) (nI k) 0 rt0 = some (gi rt0 (QQ κ) 24, rt') ∧ (∀ j, j < 22080 → gi rt' (QQ κ + 21) (22080 * k + j) = gi rt0 (QQ κ + 14) j) ∧ Same (fun p j => p = QQ κ + 21 ∧ 22080 * k ≤ j ∧ j < 22080 * k + 22080) rt0 rt' := by
  refine lk1 (fun d t i => L_R_image_33 κ d (QQ κ) (nI k) i t) (fun z => ∃ rt', z = some (gi rt0 (QQ κ) 24, rt') ∧ (∀ j, j < 22080 → gi rt' (QQ κ + 21) (22080 * k + j) = gi rt0 (QQ κ + 14) j) ∧ Same (fun p j => p = QQ κ + 21 ∧ 22080 * k ≤ j ∧ j < 22080 * k + 22080) rt0 rt') (fun i t => (∀ j, j < i → gi t (QQ κ + 21) (22080 * k + j) = gi rt0 (QQ κ + 14) j) ∧ Same (fun p j => p = QQ κ + 21 ∧ 22080 * k ≤ j ∧ j < 22080 * k + 22080) rt0 t) (n := 22080) ?_ ?_ 22080 0 FU rt0 (by omega) (FUn (by omega)) ⟨fun _ z => absurd z (Nat.not_lt_zero _), Same.rf _ _⟩
  · rintro d t ⟨g1, g2⟩
    rw [L_R_image_33, if_pos (show (22080 : Int32) ≤ nI 22080 from nI_le (Nat.le_refl _) (by decide)), (g2 (QQ κ) 24 (by omega)).1]
    exact ⟨t, rfl, g1, g2⟩
  · rintro d t i hi ⟨g1, g2⟩ ih
    rw [L_R_image_33, if_neg (show ¬ (22080 : Int32) ≤ nI i from nI_ge (b := 22080) hi (by decide)), show (22080 : Int32) = nI 22080 from rfl, nI_mul, nI_add, grd_t (vp_in_nI (by omega) (by decide)), grd_t (vp_in_nI (by omega) (by decide)), nI_clamp (by omega), nI_clamp (by omega), nI_1, (g2 (QQ κ + 14) i (by omega)).1]
    refine ih _ ⟨fun j hj => ?_, g2.ui ⟨rfl, by omega, by omega⟩⟩
    rw [gi_ui]
    by_cases e : j = i
    · rw [if_pos ⟨rfl, by rw [e]⟩, e]
    · rw [if_neg (fun z => e (by omega))]; exact g1 j (by omega)
theorem r_bakL {k : Nat} (hk : k < 4) (rt0 : AS) : ∃ rt', L_R_back_35 κ FU (QQ κ) (nI k) 0 rt0 = some (gi rt0 (QQ κ) 24, rt') ∧ (∀ j, j < 22080 → gi rt' (QQ κ + 14) j = gi rt0 (QQ κ + 21) (22080 * k + j)) ∧ Same (fun p j => p = QQ κ + 14 ∧ j < 22080) rt0 rt' := by
  refine lk1 (fun d t i => L_R_back_35 κ d (QQ κ) (nI k) i t) (fun z => ∃ rt', z = some (gi rt0 (QQ κ) 24, rt') ∧ (∀ j, j < 22080 → gi rt' (QQ κ + 14) j = gi rt0 (QQ κ + 21) (22080 * k + j)) ∧ Same (fun p j => p = QQ κ + 14 ∧ j < 22080) rt0 rt') (fun i t => (∀ j, j < i → gi t (QQ κ + 14) j = gi rt0 (QQ κ + 21) (22080 * k + j)) ∧ Same (fun p j => p = QQ κ + 14 ∧ j < 22080) rt0 t) (n := 22080) ?_ ?_ 22080 0 FU rt0 (by omega) (FUn (by omega)) ⟨fun _ z => absurd z (Nat.not_lt_zero _), Same.rf _ _⟩
  · rintro d t ⟨g1, g2⟩
    rw [L_R_back_35, if_pos (show (22080 : Int32) ≤ nI 22080 from nI_le (Nat.le_refl _) (by decide)), (g2 (QQ κ) 24 (by omega)).1]
    exact ⟨t, rfl, g1, g2⟩
  · rintro d t i hi ⟨g1, g2⟩ ih
    rw [L_R_back_35, if_neg (show ¬ (22080 : Int32) ≤ nI i from nI_ge (b := 22080) hi (by decide)), show (22080 : Int32) = nI 22080 from rfl, nI_mul, nI_add, grd_t (vp_in_nI (by omega) (by decide)), grd_t (vp_in_nI (by omega) (by decide)), nI_clamp (by omega), nI_clamp (by omega), nI_1, (g2 (QQ κ + 21) (22080 * k + i) (by omega)).1]
    refine ih _ ⟨fun j hj => ?_, g2.ui ⟨rfl, by omega⟩⟩
    rw [gi_ui]
    by_cases e : j = i
    · rw [if_pos ⟨rfl, e⟩, e]
    · rw [if_neg (fun z => e z.2)]; exact g1 j (by omega)
theorem x_image (h : GRc κ C n T m dt rt) (x : Int32) : OUT κ dt rt (f_X_image κ (kB (kt κ)) x dt) (f_R_image κ (QQ κ) x rt) := by
  have hm := h.m6
  unfold f_X_image f_R_image
  by_cases h3 : wi x.toInt64 (0 : Int64) (3 : Int64) = 0
  · rw [if_pos h3, if_pos h3]; exact h.no _
  · obtain ⟨k, hk, rfl⟩ := wi0 (c := 3) (by decide) rfl h3
    have hk4 : k < 4 := by omega
    obtain ⟨⟨h1, h2, hT, h4, h5, h6, h7, h8, h9⟩, hS⟩ := h
    obtain ⟨d1, z1, z2, z3, z4, z5⟩ := d_plikeL (κ := κ) (a0 := PA κ k) (a1 := kB (kt κ) + 21) (A0 := IA κ k) (A1 := HA κ) (S := fun i => rw_ rt (QQ κ) i) (N := m) (c := C 0) hm (by unfold PA; omega) (fun i hi => ly_I hk4 hi) (fun i j hi hj => by unfold IA HA; omega) (fun i j hi hj hne => by unfold IA; omega) (fun i hi p y1 y2 => by unfold IA at y1 y2; unfold PA; omega) m 0 FU dt (by omega) (FUn (by omega)) (fun j hj => h4.2.2 k j hk4 hj) (fun j hj => h4.1 j hj) h6 hS (fun j hj => absurd hj (Nat.not_lt_zero _))
    have z1' : f_Pl_becomeLike κ (PA κ k) (kB (kt κ) + 21) dt = some d1 := z1
    have w1 : Same (fun p _ => kB (kt κ) + 232 ≤ p ∧ p < kB (kt κ) + 360 ∧ (p - kB (kt κ) - 232) % 32 ≠ 1) dt d1 := z5.mono (fun p j z => by
      rcases z with ⟨i, hi, y⟩ | ⟨y, -⟩
      · have hc : i = 0 ∨ i = 1 ∨ i = 2 ∨ i = 3 ∨ i = 4 ∨ i = 5 := by omega
        unfold IA at y
        rcases hc with rfl | rfl | rfl | rfl | rfl | rfl <;> omega
      · unfold PA at y; omega)
    have w1k : ∀ k', k' < 4 → k' ≠ k → ∀ p j, PA κ k' ≤ p → p < PA κ k' + 32 → ¬ plW (IA κ k) (PA κ k) p j := fun k' hk' hne p j y1 y2 z => by
      rcases z with ⟨i, hi, y⟩ | ⟨y, -⟩
      · unfold IA at y; unfold PA at y1 y2; omega
      · unfold PA at y y1 y2; omega
    rw [if_neg h3, if_neg h3, grd_t (vp_in_nI hk4 (by decide)), grd_t (vp_in_nI hk4 (by decide)), grd_t (vp_in_nI hk4 (by decide)), nI_clamp (by omega), h4.2.1 k hk4, bnd_t, grd_t (ly_P hk4), z1', bnd_t]
    have e24 : gi (ui rt (QQ κ + 23) k (vp_nar .boolean 1)) (QQ κ) 24 = nI m := by rw [gi_ui, if_neg (by omega)]; exact h7
    rw [e24, vn1]
    obtain ⟨r1, q1, q2, q3⟩ := r_imgL (κ := κ) hk4 (ui (ui rt (QQ κ + 23) k 1) (QQ κ + 22) k (nI m))
    have es : f_Pl_size κ (kB (kt κ) + 21) d1 = nI m := by
      show gi d1 (kB (kt κ) + 21) 1 = _
      rw [(w1 _ _ (by omega)).1]; exact h6
    have eq24 : gi (ui (ui rt (QQ κ + 23) k 1) (QQ κ + 22) k (nI m)) (QQ κ) 24 = nI m := by rw [gi_ui, if_neg (by omega), gi_ui, if_neg (by omega)]; exact h7
    rw [q1, es, eq24]
    have v0 : Same (fun p j => (p = QQ κ + 22 ∨ p = QQ κ + 23) ∧ j = k) rt (ui (ui rt (QQ κ + 23) k 1) (QQ κ + 22) k (nI m)) := ((Same.rf _ rt).ui ⟨Or.inr rfl, rfl⟩).ui ⟨Or.inl rfl, rfl⟩
    have v1 : Same (fun p j => (p = QQ κ + 22 ∨ p = QQ κ + 23) ∧ j = k ∨ p = QQ κ + 21 ∧ 22080 * k ≤ j ∧ j < 22080 * k + 22080) rt r1 := (v0.mono (fun p j z => Or.inl z)).tr (q3.mono (fun p j z => Or.inr z))
    have rows : ∀ j, gi r1 (QQ κ + 14) j = gi rt (QQ κ + 14) j := fun j => (v1 _ _ (by omega)).1
    have hIM : ∀ k', k' < 4 → IMK κ (C 0) d1 r1 k' := fun k' hk' => by
      by_cases e : k' = k
      · subst e
        have e23 : gi r1 (QQ κ + 23) k' = 1 := by
          rw [(q3 _ _ (by omega)).1, gi_ui, if_neg (by omega), gi_ui, if_pos ⟨rfl, rfl⟩]
        have e22 : gi r1 (QQ κ + 22) k' = nI m := by
          rw [(q3 _ _ (by omega)).1, gi_ui, if_pos ⟨rfl, rfl⟩]
        unfold IMK
        rw [e23, z3]
        refine ⟨Or.inr rfl, rfl, fun _ => ⟨m, hm, z2, e22, fun i hi => (z4 i hi).ext (fun j hj => ?_)⟩⟩
        unfold imr
        rw [q2 (3680 * i + j) (by omega), gi_ui, if_neg (by omega), gi_ui, if_neg (by omega)]
        rfl
      · obtain ⟨b1', b2, b3⟩ := h9 k' hk'
        have e23 : gi r1 (QQ κ + 23) k' = gi rt (QQ κ + 23) k' := (v1 _ _ (by omega)).1
        have e2 : ∀ j, gi d1 (PA κ k') j = gi dt (PA κ k') j := fun j => (z5 _ _ (w1k k' hk' e _ _ (Nat.le_refl _) (by omega))).1
        unfold IMK
        rw [e23, e2]
        refine ⟨b1', b2, fun z => ?_⟩
        obtain ⟨mk, g1, g2, g3, g4⟩ := b3 z
        refine ⟨mk, g1, by rw [e2]; exact g2, by rw [(v1 _ _ (by omega)).1]; exact g3, fun i hi => ?_⟩
        refine SHT.ext ((g4 i hi).fr z5 (fun p j y1 y2 => w1k k' hk' e p j (by unfold IA at y1; unfold PA; omega) (by unfold IA at y2; unfold PA; omega))) (fun j hj => (v1 _ _ (by omega)).1)
    refine ⟨_, d1, r1, rfl, rfl, ⟨C, n, T, m, ⟨h1.fr (fun p j y1 y2 => (w1 _ _ (by omega)).2.2), h2.frg w1 v1 (fun p j y z => by omega) (fun p j y1 y2 z => by omega), hT.fr w1 v1 (fun p j y z => by omega) (fun p j y z => by omega), h4.fr w1 (fun p j y z => by omega), hm, by rw [(w1 _ _ (by omega)).1]; exact h6, by rw [(v1 _ _ (by omega)).1]; exact h7, fun p hp => by rw [(w1 _ _ (by omega)).1]; exact h8 p hp, hIM⟩, fun i hi => ?_⟩, w1.mono (fun p j z => by unfold QQ; omega), v1.mono (fun p j z => by omega)⟩
    exact SHT.ext ((hS i hi).fr w1 (fun p j y1 y2 z => by unfold HA at y1 y2; omega)) (fun j hj => rows _)
theorem x_back (h : GRc κ C n T m dt rt) (x : Int32) : OUT κ dt rt (f_X_back κ (kB (kt κ)) x dt) (f_R_back κ (QQ κ) x rt) := by
  unfold f_X_back f_R_back
  simp only [jn_e]
  by_cases h3 : wi x.toInt64 (0 : Int64) (3 : Int64) = 0
  · rw [if_pos h3, if_pos h3]; exact h.no _
  · obtain ⟨k, hk, rfl⟩ := wi0 (c := 3) (by decide) rfl h3
    have hk4 : k < 4 := by omega
    have h4 := h.1.2.2.2.1
    obtain ⟨b1', b2, b3⟩ := h.1.2.2.2.2.2.2.2.2 k hk4
    have wm : f_Pl_wasMade κ (PA κ k) dt = some (gi rt (QQ κ + 23) k) := by
      unfold f_Pl_wasMade
      rw [b2, grd_t b1']
    rw [if_neg h3, if_neg h3, grd_t (vp_in_nI hk4 (by decide)), grd_t (vp_in_nI hk4 (by decide)), grd_t (vp_in_nI hk4 (by decide)), grd_t (vp_in_nI hk4 (by decide)), nI_clamp (by omega), h4.2.1 k hk4, bnd_t, grd_t (ly_P hk4), wm, bnd_t, bnd_t, grd_t (ly_P hk4)]
    by_cases e0 : gi rt (QQ κ + 23) k = 0
    · rw [if_pos e0, if_pos e0]; exact h.no _
    · have e1 : gi rt (QQ κ + 23) k = 1 := b1'.resolve_left e0
      obtain ⟨mk, g1, g2, g3, g4⟩ := b3 e1
      obtain ⟨d1, z1, z2, z3, z4, z5⟩ := d_plikeL (κ := κ) (a0 := kB (kt κ) + 21) (a1 := PA κ k) (A0 := HA κ) (A1 := IA κ k) (S := fun i => imr rt (QQ κ) k i) (N := mk) (c := C 0) g1 (by unfold PA; omega) (fun i hi => ly_H hi) (fun i j hi hj => by unfold IA HA; omega) (fun i j hi hj hne => by unfold HA; omega) (fun i hi p y1 y2 => by unfold HA at y1 y2; unfold PA; omega) mk 0 FU dt (by omega) (FUn (by omega)) (fun j hj => h4.1 j hj) (fun j hj => h4.2.2 k j hk4 hj) g2 g4 (fun j hj => absurd hj (Nat.not_lt_zero _))
      have z1' : f_Pl_becomeLike κ (kB (kt κ) + 21) (PA κ k) dt = some d1 := z1
      rw [if_neg e0, if_neg e0, z1', bnd_t, g3]
      obtain ⟨r1, q1, q2, q3⟩ := r_bakL (κ := κ) hk4 (ui rt (QQ κ) 24 (nI mk))
      have es : f_Pl_size κ (kB (kt κ) + 21) d1 = nI mk := z2
      have e24 : gi (ui rt (QQ κ) 24 (nI mk)) (QQ κ) 24 = nI mk := by rw [gi_ui, if_pos ⟨rfl, rfl⟩]
      rw [q1, es, e24]
      -- by way of the sheets alone, then the numbers
      have wA : Same (fun p j => (kB (kt κ) + 23 ≤ p ∧ p < kB (kt κ) + 53) ∨ p = kB (kt κ) + 21 ∧ (j = 1 ∨ j = 2)) dt d1 := z5.mono (fun p j z => by
        rcases z with ⟨i, hi, y⟩ | y
        · unfold HA at y; exact Or.inl (by omega)
        · exact Or.inr y)
      have vA : Same (fun p j => p = QQ κ + 14 ∨ p = QQ κ ∧ j = 24) rt r1 := ((Same.rf (fun p j => p = QQ κ + 14 ∨ p = QQ κ ∧ j = 24) rt).ui (Or.inr ⟨rfl, rfl⟩)).tr (q3.mono (fun p j z => Or.inl z.1))
      obtain ⟨⟨h1, h2, hT, -, h5, h6, h7, h8, h9⟩, hS⟩ := h
      refine ⟨_, d1, r1, rfl, rfl, ⟨C, n, T, mk, ⟨h1.fr (fun p j y1 y2 => (wA _ _ (by omega)).2.2), h2.frg wA vA (fun p j y z => by omega) (fun p j y1 y2 z => by omega), hT.fr wA vA (fun p j y z => by omega) (fun p j y z => by omega), h4.fr wA (fun p j y z => by omega), g1, z2, by rw [(q3 _ _ (by omega)).1]; exact e24, fun p hp => by rw [(wA _ _ (by omega)).1]; exact h8 p hp, fun k' hk' => (h9 k' hk').fr hk' wA vA (fun p j y1 y2 z => by omega) (fun p j y1 y2 z => by omega)⟩, fun i hi => (z4 i hi).ext (fun j hj => ?_)⟩, wA.mono (fun p j z => by unfold QQ; omega), vA.mono (fun p j z => by omega)⟩
      show gi r1 (QQ κ + 14) (3680 * i + j) = gi rt (QQ κ + 21) (22080 * k + (3680 * i + j))
      rw [q2 (3680 * i + j) (by omega), gi_ui, if_neg (by omega)]
end Image
