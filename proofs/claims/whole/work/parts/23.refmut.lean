/-! what the reference does to a row -/
theorem gi_ui (st : AS) (q j : Nat) (v : Int32) (p k : Nat) : gi (ui st q j v) p k = if p = q ∧ k = j then v else gi st p k := rfl
theorem gl_ul (st : AS) (q j : Nat) (v : Int64) (p k : Nat) : gl (ul st q j v) p k = if p = q ∧ k = j then v else gl st p k := rfl
theorem gr_ur (st : AS) (q j : Nat) (v : Option Nat) (p k : Nat) : gr (ur st q j v) p k = if p = q ∧ k = j then v else gr st p k := rfl
theorem gl_ui' (st : AS) (q j : Nat) (v : Int32) (p k : Nat) : gl (ui st q j v) p k = gl st p k := rfl
theorem gr_ui' (st : AS) (q j : Nat) (v : Int32) (p k : Nat) : gr (ui st q j v) p k = gr st p k := rfl
theorem gi_ul' (st : AS) (q j : Nat) (v : Int64) (p k : Nat) : gi (ul st q j v) p k = gi st p k := rfl
theorem gr_ul' (st : AS) (q j : Nat) (v : Int64) (p k : Nat) : gr (ul st q j v) p k = gr st p k := rfl
theorem gi_ur' (st : AS) (q j : Nat) (v : Option Nat) (p k : Nat) : gi (ur st q j v) p k = gi st p k := rfl
theorem gl_ur' (st : AS) (q j : Nat) (v : Option Nat) (p k : Nat) : gl (ur st q j v) p k = gl st p k := rfl
/-- a place of a row set -/
def setS (S : Nat → Int32) (j : Nat) (v : Int32) : Nat → Int32 := fun k => if k = j then v else S k
theorem rw_ui {rt : AS} {q s j : Nat} {v : Int32} : rw_ (ui rt (q + 14) (3680 * s + j) v) q s = setS (rw_ rt q s) j v := by
  funext k
  unfold rw_ setS
  rw [gi_ui]
  by_cases h : k = j
  · rw [if_pos h, if_pos ⟨rfl, by rw [h]⟩]
  · rw [if_neg h, if_neg (fun z => h (by omega))]
/-- only the row s of the model at q is other, its seed aside -/
def FrR (q s : Nat) (rt rt' : AS) : Prop := (∀ p j, (p = q + 14 → j < 3680 * s ∨ 3680 * s + 3680 ≤ j ∨ j = 3680 * s + 3) → gi rt' p j = gi rt p j) ∧ (∀ p j, gl rt' p j = gl rt p j) ∧ (∀ p j, gr rt' p j = gr rt p j)
theorem FrR.rf (q s : Nat) (rt : AS) : FrR q s rt rt := ⟨fun _ _ _ => rfl, fun _ _ => rfl, fun _ _ => rfl⟩
theorem FrR.tr {q s : Nat} {r1 r2 r3 : AS} (h : FrR q s r1 r2) (h' : FrR q s r2 r3) : FrR q s r1 r3 :=
  ⟨fun p j e => (h'.1 p j e).trans (h.1 p j e), fun p j => (h'.2.1 p j).trans (h.2.1 p j), fun p j => (h'.2.2 p j).trans (h.2.2 p j)⟩
theorem FrR.ui {q s j : Nat} {v : Int32} {r1 r2 : AS} (h : FrR q s r1 r2) (hj : j < 3680 ∧ j ≠ 3) : FrR q s r1 (ui r2 (q + 14) (3680 * s + j) v) :=
  h.tr ⟨fun p i e => by
    rw [gi_ui, if_neg]
    rintro ⟨z1, z2⟩
    have := e z1
    omega, fun _ _ => rfl, fun _ _ => rfl⟩
theorem ixF0 (s f : Nat) : (3680 : Int32) * nI s + 10 + (4 : Int32) * nI f = nI (3680 * s + (10 + 4 * f)) := by
  rw [show (3680 : Int32) = nI 3680 from rfl, show (10 : Int32) = nI 10 from rfl, show (4 : Int32) = nI 4 from rfl, nI_mul, nI_mul, nI_add, nI_add]
  congr 1
  omega
theorem ixR0 (s f : Nat) : (3680 : Int32) * nI s + 810 + (7 : Int32) * nI f = nI (3680 * s + (810 + 7 * f)) := by
  rw [show (3680 : Int32) = nI 3680 from rfl, show (810 : Int32) = nI 810 from rfl, show (7 : Int32) = nI 7 from rfl, nI_mul, nI_mul, nI_add, nI_add]
  congr 1
  omega
theorem ixS0 (s : Nat) : (3680 : Int32) * nI s = nI (3680 * s + 0) := by
  rw [show (3680 : Int32) = nI 3680 from rfl, nI_mul]
  rfl
theorem nI_k (a k : Nat) {y : Int32} (h : y = nI k) : nI a + y = nI (a + k) := by rw [h, nI_add]
/-- a facet comes -/
def comeS (S : Nat → Int32) (n : Nat) (x y w h : Int32) : Nat → Int32 := setS (setS (setS (setS (setS S (10 + 4 * n) x) (10 + 4 * n + 1) y) (10 + 4 * n + 2) w) (10 + 4 * n + 3) h) 6 (nI (n + 1))
/-- a ridge comes -/
def ridgeS (S : Nat → Int32) (n : Nat) (w p f t k : Int32) : Nat → Int32 := setS (setS (setS (setS (setS (setS (setS (setS S (810 + 7 * n) w) (810 + 7 * n + 1) p) (810 + 7 * n + 2) f) (810 + 7 * n + 3) t) (810 + 7 * n + 4) (S 5)) (810 + 7 * n + 5) k) (810 + 7 * n + 6) 1) 7 (nI (n + 1))
section RefMut
variable {κ : Ko} {rt : AS} {q s : Nat}
theorem giS (rt : AS) (q s k : Nat) : gi rt (q + 14) (3680 * s + k) = rw_ rt q s k := rfl
theorem r_facetComes (hs : s < 7) {n : Nat} (hn : rw_ rt q s 6 = nI n) (hn2 : n < 200) (x y w h : Int32) : ∃ rt', f_R_facetComes κ q (nI s) x y w h rt = some rt' ∧ rw_ rt' q s = comeS (rw_ rt q s) n x y w h ∧ FrR q s rt rt' := by
  unfold f_R_facetComes
  rw [r_sheet hs (k := 6) (y := 6) (by decide) rfl, bnd_t, hn]
  simp only [ixF0, ixS s 6, show (6 : Int32) = nI 6 from rfl, nI_k _ 1 (y := 1) rfl, nI_k _ 2 (y := 2) rfl, nI_k _ 3 (y := 3) rfl]
  rw [grd_t (vp_in_nI (by omega) (by decide)), grd_t (vp_in_nI (by omega) (by decide)), grd_t (vp_in_nI (by omega) (by decide)), grd_t (vp_in_nI (by omega) (by decide)), grd_t (vp_in_nI (by omega) (by decide)), grd_t (vp_in_nI (by omega) (by decide))]
  rw [nI_clamp (by omega), nI_clamp (by omega), nI_clamp (by omega), nI_clamp (by omega), nI_clamp (by omega)]
  refine ⟨_, rfl, ?_, ?_⟩
  · rw [giS]
    simp only [show ∀ z, 3680 * s + (10 + 4 * n) + z = 3680 * s + (10 + 4 * n + z) from fun z => by omega]
    simp only [rw_ui]
    unfold comeS
    congr 1
    unfold setS
    rw [if_neg (by omega), if_neg (by omega), if_neg (by omega), if_neg (by omega), hn, nI_1]
  · simp only [show ∀ z, 3680 * s + (10 + 4 * n) + z = 3680 * s + (10 + 4 * n + z) from fun z => by omega]
    exact (((((FrR.rf q s rt).ui (by omega)).ui (by omega)).ui (by omega)).ui (by omega)).ui (by omega)
theorem r_ridgeComes (hs : s < 7) {n : Nat} (hn : rw_ rt q s 7 = nI n) (hn2 : n < 400) (w p f t k : Int32) : ∃ rt', f_R_ridgeComes κ q (nI s) w p f t k rt = some rt' ∧ rw_ rt' q s = ridgeS (rw_ rt q s) n w p f t k ∧ FrR q s rt rt' := by
  unfold f_R_ridgeComes
  rw [r_sheet hs (k := 7) (y := 7) (by decide) rfl, bnd_t, hn]
  simp only [ixR0, r_sheet hs (k := 5) (y := 5) (by decide) rfl, bnd_t]
  simp only [ixS s 7, show (7 : Int32) = nI 7 from rfl, nI_k _ 1 (y := 1) rfl, nI_k _ 2 (y := 2) rfl, nI_k _ 3 (y := 3) rfl, nI_k _ 4 (y := 4) rfl, nI_k _ 5 (y := 5) rfl, nI_k _ 6 (y := 6) rfl]
  rw [grd_t (vp_in_nI (by omega) (by decide)), grd_t (vp_in_nI (by omega) (by decide)), grd_t (vp_in_nI (by omega) (by decide)), grd_t (vp_in_nI (by omega) (by decide)), grd_t (vp_in_nI (by omega) (by decide)), grd_t (vp_in_nI (by omega) (by decide)), grd_t (vp_in_nI (by omega) (by decide)), grd_t (vp_in_nI (by omega) (by decide)), grd_t (vp_in_nI (by omega) (by decide))]
  rw [nI_clamp (by omega), nI_clamp (by omega), nI_clamp (by omega), nI_clamp (by omega), nI_clamp (by omega), nI_clamp (by omega), nI_clamp (by omega), nI_clamp (by omega)]
  refine ⟨_, rfl, ?_, ?_⟩
  · rw [giS]
    simp only [show ∀ z, 3680 * s + (810 + 7 * n) + z = 3680 * s + (810 + 7 * n + z) from fun z => by omega]
    simp only [rw_ui]
    unfold ridgeS
    have e5 : setS (setS (setS (setS (rw_ rt q s) (810 + 7 * n) w) (810 + 7 * n + 1) p) (810 + 7 * n + 2) f) (810 + 7 * n + 3) t 5 = rw_ rt q s 5 := by
      unfold setS
      rw [if_neg (by omega), if_neg (by omega), if_neg (by omega), if_neg (by omega)]
    rw [e5]
    congr 1
    unfold setS
    rw [if_neg (by omega), if_neg (by omega), if_neg (by omega), if_neg (by omega), if_neg (by omega), if_neg (by omega), if_neg (by omega), hn, nI_1]
  · simp only [show ∀ z, 3680 * s + (810 + 7 * n) + z = 3680 * s + (810 + 7 * n + z) from fun z => by omega]
    exact ((((((((FrR.rf q s rt).ui (by omega)).ui (by omega)).ui (by omega)).ui (by omega)).ui (by omega)).ui (by omega)).ui (by omega)).ui (by omega)
/-- a facet is cut -/
def cutS (S : Nat → Int32) (n f w : Nat) (p : Int32) : Nat → Int32 :=
  if w = 0 then comeS (setS S (10 + 4 * f + 2) p) n (S (10 + 4 * f) + p) (S (10 + 4 * f + 1)) (S (10 + 4 * f + 2) - p) (S (10 + 4 * f + 3))
  else comeS (setS S (10 + 4 * f + 3) p) n (S (10 + 4 * f)) (S (10 + 4 * f + 1) + p) (S (10 + 4 * f + 2)) (S (10 + 4 * f + 3) - p)
theorem r_cuts (hs : s < 7) {n f w : Nat} (hn : rw_ rt q s 6 = nI n) (hn2 : n < 200) (hf : f < n) (hw : w < 2) (p : Int32) : ∃ rt', f_R_cuts κ q (nI s) (nI f) (nI w) p rt = some rt' ∧ rw_ rt' q s = cutS (rw_ rt q s) n f w p ∧ FrR q s rt rt' := by
  unfold f_R_cuts cutS
  simp only [ixF0, nI_k _ 1 (y := 1) rfl, nI_k _ 2 (y := 2) rfl, nI_k _ 3 (y := 3) rfl, nI_add]
  rw [grd_t (vp_in_nI (by omega) (by decide)), grd_t (vp_in_nI (by omega) (by decide))]
  rw [nI_clamp (show 3680 * s + (10 + 4 * f) < 2 ^ 31 by omega), nI_clamp (show 3680 * s + (10 + 4 * f) + 1 < 2 ^ 31 by omega), nI_clamp (show 3680 * s + (10 + 4 * f) + 2 < 2 ^ 31 by omega), nI_clamp (show 3680 * s + (10 + 4 * f) + 3 < 2 ^ 31 by omega), nI_clamp (show 3680 * s + (10 + 4 * f) + 2 + w < 2 ^ 31 by omega)]
  simp only [show ∀ z, 3680 * s + (10 + 4 * f) + z = 3680 * s + (10 + 4 * f + z) from fun z => by omega]
  have hc : w = 0 ∨ w = 1 := by omega
  rcases hc with rfl | rfl
  · rw [if_pos (show nI 0 = 0 from rfl), if_pos rfl, grd_t (vp_in_nI (by omega) (by decide)), grd_t (vp_in_nI (by omega) (by decide)), grd_t (vp_in_nI (by omega) (by decide))]
    simp only [giS, show ∀ z, 3680 * s + (10 + 4 * f + z) + 0 = 3680 * s + (10 + 4 * f + z) from fun z => rfl, rw_ui]
    have g : ∀ k, k ≠ 10 + 4 * f + 2 → setS (rw_ rt q s) (10 + 4 * f + 2) p k = rw_ rt q s k := fun k hk => if_neg hk
    rw [g _ (by omega), g _ (by omega), g _ (by omega)]
    obtain ⟨rt', h1, h2, h3⟩ := r_facetComes (κ := κ) (rt := ui rt (q + 14) (3680 * s + (10 + 4 * f + 2)) p) hs (n := n) (by rw [rw_ui, g 6 (by omega)]; exact hn) hn2 (rw_ rt q s (10 + 4 * f) + p) (rw_ rt q s (10 + 4 * f + 1)) (rw_ rt q s (10 + 4 * f + 2) - p) (rw_ rt q s (10 + 4 * f + 3))
    rw [h1, bnd_t]
    refine ⟨rt', rfl, ?_, ((FrR.rf q s rt).ui (by omega)).tr h3⟩
    rw [h2, rw_ui]
  · rw [if_neg (show ¬ nI 1 = 0 by decide), if_neg (by decide), grd_t (vp_in_nI (by omega) (by decide)), grd_t (vp_in_nI (by omega) (by decide)), grd_t (vp_in_nI (by omega) (by decide))]
    simp only [giS, show ∀ z, 3680 * s + (10 + 4 * f + z) + 1 = 3680 * s + (10 + 4 * f + (z + 1)) from fun z => by omega, Nat.reduceAdd, rw_ui]
    have g : ∀ k, k ≠ 10 + 4 * f + 3 → setS (rw_ rt q s) (10 + 4 * f + 3) p k = rw_ rt q s k := fun k hk => if_neg hk
    rw [g _ (by omega), g _ (by omega), g _ (by omega)]
    obtain ⟨rt', h1, h2, h3⟩ := r_facetComes (κ := κ) (rt := ui rt (q + 14) (3680 * s + (10 + 4 * f + 3)) p) hs (n := n) (by rw [rw_ui, g 6 (by omega)]; exact hn) hn2 (rw_ rt q s (10 + 4 * f)) (rw_ rt q s (10 + 4 * f + 1) + p) (rw_ rt q s (10 + 4 * f + 2)) (rw_ rt q s (10 + 4 * f + 3) - p)
    rw [h1, bnd_t]
    refine ⟨rt', rfl, ?_, ((FrR.rf q s rt).ui (by omega)).tr h3⟩
    rw [h2, rw_ui]
end RefMut
