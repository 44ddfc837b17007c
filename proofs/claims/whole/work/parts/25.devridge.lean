section RidgeS
variable {S : Nat → Int32} {n : Nat} {w p f t k : Int32}
theorem ridgeS_7 : ridgeS S n w p f t k 7 = nI (n + 1) := by unfold ridgeS; unfold setS; rw [if_pos rfl]
theorem ridgeS_lo {j : Nat} (hj : j < 810) (h7 : j ≠ 7) : ridgeS S n w p f t k j = S j := by
  unfold ridgeS setS
  rw [if_neg h7, if_neg (by omega), if_neg (by omega), if_neg (by omega), if_neg (by omega), if_neg (by omega), if_neg (by omega), if_neg (by omega)]
theorem ridgeS_hi {j : Nat} (hn : n < 400) (hj : 3610 ≤ j) : ridgeS S n w p f t k j = S j := by
  unfold ridgeS setS
  rw [if_neg (by omega), if_neg (by omega), if_neg (by omega), if_neg (by omega), if_neg (by omega), if_neg (by omega), if_neg (by omega), if_neg (by omega)]
theorem ridgeS_old {r u : Nat} (hr : r < n) (hu : u < 7) : ridgeS S n w p f t k (810 + 7 * r + u) = S (810 + 7 * r + u) := by
  unfold ridgeS setS
  rw [if_neg (by omega), if_neg (by omega), if_neg (by omega), if_neg (by omega), if_neg (by omega), if_neg (by omega), if_neg (by omega), if_neg (by omega)]
theorem ridgeS_new0 : ridgeS S n w p f t k (810 + 7 * n + 0) = w := by
  unfold ridgeS setS
  rw [if_neg (by omega), if_neg (by omega), if_neg (by omega), if_neg (by omega), if_neg (by omega), if_neg (by omega), if_neg (by omega), if_pos (by omega)]
theorem ridgeS_new1 : ridgeS S n w p f t k (810 + 7 * n + 1) = p := by
  unfold ridgeS setS
  rw [if_neg (by omega), if_neg (by omega), if_neg (by omega), if_neg (by omega), if_neg (by omega), if_neg (by omega), if_pos rfl]
theorem ridgeS_new2 : ridgeS S n w p f t k (810 + 7 * n + 2) = f := by
  unfold ridgeS setS
  rw [if_neg (by omega), if_neg (by omega), if_neg (by omega), if_neg (by omega), if_neg (by omega), if_pos rfl]
theorem ridgeS_new3 : ridgeS S n w p f t k (810 + 7 * n + 3) = t := by
  unfold ridgeS setS
  rw [if_neg (by omega), if_neg (by omega), if_neg (by omega), if_neg (by omega), if_pos rfl]
theorem ridgeS_new4 : ridgeS S n w p f t k (810 + 7 * n + 4) = S 5 := by
  unfold ridgeS setS
  rw [if_neg (by omega), if_neg (by omega), if_neg (by omega), if_pos rfl]
theorem ridgeS_new5 : ridgeS S n w p f t k (810 + 7 * n + 5) = k := by
  unfold ridgeS setS
  rw [if_neg (by omega), if_neg (by omega), if_pos rfl]
theorem ridgeS_new6 : ridgeS S n w p f t k (810 + 7 * n + 6) = 1 := by
  unfold ridgeS setS
  rw [if_neg (by omega), if_pos rfl]
end RidgeS
section DevRidge
variable {κ : Ko} {dt : AS} {a : Nat} {S : Nat → Int32}
def ridgeD (st : AS) (a n : Nat) (w p f t o k : Int32) : AS := ui (ui (ui (ui (ui (ui (ui (ui st (a + 2) (7 * n + 0) w) (a + 2) (7 * n + 1) p) (a + 2) (7 * n + 2) f) (a + 2) (7 * n + 3) t) (a + 2) (7 * n + 4) o) (a + 2) (7 * n + 5) k) (a + 2) (7 * n + 6) 1) a 12 (nI (n + 1))
theorem d_addRidge (st : AS) {n : Nat} (hn : gi st a 12 = nI n) (hn2 : n < 400) (w p f t k : Int32) : f_Sh_addRidge κ a w p f t k st = some (ridgeD st a n w p f t (gi st a 10) k) := by
  unfold f_Sh_addRidge ridgeD
  have ne : ∀ (s : AS) (j m : Nat) (v : Int32), gi (ui s (a + 2) j v) a m = gi s a m := fun s j m v => by rw [gi_ui, if_neg (by omega)]
  simp only [hn, d_putR (κ := κ) (a := a) _ (y := 0) (p := 0) rfl hn2 (by decide), d_putR (κ := κ) (a := a) _ (y := 1) (p := 1) rfl hn2 (by decide), d_putR (κ := κ) (a := a) _ (y := 2) (p := 2) rfl hn2 (by decide), d_putR (κ := κ) (a := a) _ (y := 3) (p := 3) rfl hn2 (by decide), d_putR (κ := κ) (a := a) _ (y := 4) (p := 4) rfl hn2 (by decide), d_putR (κ := κ) (a := a) _ (y := 5) (p := 5) rfl hn2 (by decide), d_putR (κ := κ) (a := a) _ (y := 6) (p := 6) rfl hn2 (by decide), bnd_t, ne, nI_1]
theorem ridgeD_same (st : AS) (n : Nat) (w p f t o k : Int32) : Same (shW κ a) st (ridgeD st a n w p f t o k) :=
  ((((((((Same.rf (shW κ a) st).ui (shW_1 2 (by decide) (by decide))).ui (shW_1 2 (by decide) (by decide))).ui (shW_1 2 (by decide) (by decide))).ui (shW_1 2 (by decide) (by decide))).ui (shW_1 2 (by decide) (by decide))).ui (shW_1 2 (by decide) (by decide))).ui (shW_1 2 (by decide) (by decide))).ui (shW_0 (by decide))
theorem ridgeD_sh {n : Nat} (hS : ShD κ dt a S) (hn : S 7 = nI n) (hn2 : n < 400) (hF : nF S ≤ 200) (w p f t k : Int32) : ShD κ (ridgeD dt a n w p f t (S 5) k) a (ridgeS S n w p f t k) := by
  obtain ⟨h1, ⟨f0, f1, f2, f3, f4, f5, f6, f7, f8⟩, hl, hf, hr, hd⟩ := hS
  have hnR : nR S = n := by unfold nR; rw [hn, nI_clamp (by omega)]
  have e7 : nR (ridgeS S n w p f t k) = n + 1 := by unfold nR; rw [ridgeS_7, nI_clamp (by omega)]
  have e6 : nF (ridgeS S n w p f t k) = nF S := by unfold nF; rw [ridgeS_lo (by decide) (by decide)]
  have e5 : rD (ridgeS S n w p f t k) = rD S := by unfold rD; rw [ridgeS_lo (by decide) (by decide)]
  have ga : ∀ j, j ≠ 12 → gi (ridgeD dt a n w p f t (S 5) k) a j = gi dt a j := by
    intro j hj
    unfold ridgeD
    simp only [gi_ui]
    rw [if_neg (by omega), if_neg (by omega), if_neg (by omega), if_neg (by omega), if_neg (by omega), if_neg (by omega), if_neg (by omega), if_neg (by omega)]
  refine ⟨h1, ⟨?_, ?_, ?_, ?_, ?_, ?_, ?_, ?_, ?_⟩, ?_, ?_, ?_, ?_⟩
  · rw [ga _ (by decide), ridgeS_lo (by decide) (by decide)]; exact f0
  · rw [ga _ (by decide), ridgeS_lo (by decide) (by decide)]; exact f1
  · trivial
  · rw [ridgeS_lo (by decide) (by decide)]; exact f3
  · rw [ga _ (by decide), ridgeS_lo (by decide) (by decide)]; exact f4
  · rw [ga _ (by decide), ridgeS_lo (by decide) (by decide)]; exact f5
  · rw [ridgeS_7]; unfold ridgeD; rw [gi_ui, if_pos ⟨rfl, rfl⟩]
  · rw [ga _ (by decide), ridgeS_lo (by decide) (by decide)]; exact f7
  · rw [ga _ (by decide), ridgeS_lo (by decide) (by decide)]; exact f8
  · rw [ridgeS_lo (by decide) (by decide)]; exact hl
  · intro g hg u hu
    rw [e6] at hg
    rw [ridgeS_lo (by omega) (by omega)]
    unfold ridgeD
    simp only [gi_ui]
    rw [if_neg (by omega), if_neg (by omega), if_neg (by omega), if_neg (by omega), if_neg (by omega), if_neg (by omega), if_neg (by omega), if_neg (by omega)]
    exact hf g hg u hu
  · intro r hr' u hu
    rw [e7] at hr'
    unfold ridgeD
    simp only [gi_ui]
    rw [if_neg (by omega)]
    by_cases e : r = n
    · subst e
      match u, hu with
      | 0, _ => rw [if_neg (by omega), if_neg (by omega), if_neg (by omega), if_neg (by omega), if_neg (by omega), if_neg (by omega), if_pos ⟨trivial, rfl⟩, ridgeS_new0]
      | 1, _ => rw [if_neg (by omega), if_neg (by omega), if_neg (by omega), if_neg (by omega), if_neg (by omega), if_pos ⟨trivial, rfl⟩, ridgeS_new1]
      | 2, _ => rw [if_neg (by omega), if_neg (by omega), if_neg (by omega), if_neg (by omega), if_pos ⟨trivial, rfl⟩, ridgeS_new2]
      | 3, _ => rw [if_neg (by omega), if_neg (by omega), if_neg (by omega), if_pos ⟨trivial, rfl⟩, ridgeS_new3]
      | 4, _ => rw [if_neg (by omega), if_neg (by omega), if_pos ⟨trivial, rfl⟩, ridgeS_new4]
      | 5, _ => rw [if_neg (by omega), if_pos ⟨trivial, rfl⟩, ridgeS_new5]
      | 6, _ => rw [if_pos ⟨trivial, rfl⟩, ridgeS_new6]
    · rw [if_neg (by omega), if_neg (by omega), if_neg (by omega), if_neg (by omega), if_neg (by omega), if_neg (by omega), if_neg (by omega), ridgeS_old (by omega) hu]
      exact hr r (by omega) u hu
  · intro j hj hj0
    rw [e5] at hj
    rw [ridgeS_hi hn2 (by omega)]
    unfold ridgeD
    simp only [gi_ui]
    rw [if_neg (by omega), if_neg (by omega), if_neg (by omega), if_neg (by omega), if_neg (by omega), if_neg (by omega), if_neg (by omega), if_neg (by omega)]
    exact hd j hj hj0
end DevRidge
