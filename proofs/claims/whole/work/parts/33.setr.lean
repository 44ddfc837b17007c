section SetR
variable {κ : Ko} {dt : AS} {a : Nat} {S : Nat → Int32}
/-- one number of a ridge set -/
theorem setR_sh {r p : Nat} {v : Int32} (hS : ShD κ dt a S) (hF : nF S ≤ 200) (hr : r < 400) (hp : p < 7) : ShD κ (ui dt (a + 2) (7 * r + p) v) a (setS S (810 + 7 * r + p) v) := by
  obtain ⟨h1, ⟨f0, f1, f2, f3, f4, f5, f6, f7, f8⟩, hl, hfa, hri, hd⟩ := hS
  have lo : ∀ k, k < 10 → setS S (810 + 7 * r + p) v k = S k := fun k hk => if_neg (by omega)
  have ga : ∀ k, gi (ui dt (a + 2) (7 * r + p) v) a k = gi dt a k := fun k => by rw [gi_ui, if_neg (by omega)]
  have e6 : nF (setS S (810 + 7 * r + p) v) = nF S := by unfold nF; rw [lo 6 (by decide)]
  have e7 : nR (setS S (810 + 7 * r + p) v) = nR S := by unfold nR; rw [lo 7 (by decide)]
  have e5 : rD (setS S (810 + 7 * r + p) v) = rD S := by unfold rD; rw [lo 5 (by decide)]
  refine ⟨h1, ⟨?_, ?_, trivial, ?_, ?_, ?_, ?_, ?_, ?_⟩, ?_, ?_, ?_, ?_⟩
  · rw [ga, lo _ (by decide)]; exact f0
  · rw [ga, lo _ (by decide)]; exact f1
  · rw [lo _ (by decide)]; exact f3
  · rw [ga, lo _ (by decide)]; exact f4
  · rw [ga, lo _ (by decide)]; exact f5
  · rw [ga, lo _ (by decide)]; exact f6
  · rw [ga, lo _ (by decide)]; exact f7
  · rw [ga, lo _ (by decide)]; exact f8
  · rw [lo _ (by decide)]; exact hl
  · intro g hg u hu
    rw [e6] at hg
    rw [gi_ui, if_neg (by omega), show setS S (810 + 7 * r + p) v (10 + 4 * g + u) = S (10 + 4 * g + u) from if_neg (by omega)]
    exact hfa g hg u hu
  · intro r' hr' u hu
    rw [e7] at hr'
    rw [gi_ui]
    unfold setS
    by_cases e : 7 * r' + u = 7 * r + p
    · rw [if_pos ⟨rfl, e⟩, if_pos (by omega)]
    · rw [if_neg (fun z => e z.2), if_neg (by omega)]
      exact hri r' hr' u hu
  · intro k hk hk0
    rw [e5] at hk
    rw [gi_ui, if_neg (by omega), show setS S (810 + 7 * r + p) v (3610 + k) = S (3610 + k) from if_neg (by omega)]
    exact hd k hk hk0
theorem setR_same {r p : Nat} {v : Int32} : Same (shW κ a) dt (ui dt (a + 2) (7 * r + p) v) := (Same.rf _ _).ui (shW_1 2 (by decide) (by decide))
theorem rdR (h : ShD κ dt a S) (hR : nR S ≤ 400) {r u : Nat} {y : Int32} (hr : r < nR S) (hu : u < 7) (hy : y = nI u) : f_Sh_ridgePart κ a (nI r) y dt = some (S (810 + 7 * r + u)) := by
  rw [f_Sh_ridgePart_eq, hy, ix7, gat_n rfl (by omega) (by decide)]
  exact congrArg some (h.2.2.2.2.1 r hr u hu)
/-- the ways of the first i ridges turned -/
def turnR (S : Nat → Int32) (i : Nat) : Nat → Int32 := fun k => if 810 ≤ k ∧ k < 810 + 7 * i ∧ (k - 810) % 7 = 0 then (if S k = 0 then 1 else 0) else S k
theorem turnR_at {S : Nat → Int32} {i k : Nat} (h : k < 810 ∨ 810 + 7 * i ≤ k) : turnR S i k = S k := by
  unfold turnR
  rw [if_neg (by omega)]
theorem turnR_step (S : Nat → Int32) (i : Nat) : setS (turnR S i) (810 + 7 * i + 0) (if S (810 + 7 * i + 0) = 0 then 1 else 0) = turnR S (i + 1) := by
  funext k
  unfold setS turnR
  by_cases h : k = 810 + 7 * i + 0
  · subst h
    rw [if_pos rfl, if_pos (show 810 ≤ 810 + 7 * i + 0 ∧ 810 + 7 * i + 0 < 810 + 7 * (i + 1) ∧ (810 + 7 * i + 0 - 810) % 7 = 0 by omega)]
  · rw [if_neg h]
    by_cases e : 810 ≤ k ∧ k < 810 + 7 * i ∧ (k - 810) % 7 = 0
    · rw [if_pos e, if_pos (show 810 ≤ k ∧ k < 810 + 7 * (i + 1) ∧ (k - 810) % 7 = 0 by omega)]
    · rw [if_neg e, if_neg (show ¬ (810 ≤ k ∧ k < 810 + 7 * (i + 1) ∧ (k - 810) % 7 = 0) by omega)]
theorem d_turnR (h : ShD κ dt a S) (h7 : S 7 = nI (nR S)) (hR : nR S ≤ 400) (hF : nF S ≤ 200) : ∃ dt', L_Sh_changeSides_90 κ FU a 0 dt = some dt' ∧ ShD κ dt' a (turnR S (nR S)) ∧ Same (shW κ a) dt dt' := by
  have nRt : ∀ i, nR (turnR S i) = nR S := fun i => by unfold nR; rw [turnR_at (Or.inl (by omega))]
  have nFt : ∀ i, nF (turnR S i) = nF S := fun i => by unfold nF; rw [turnR_at (Or.inl (by omega))]
  have t0 : turnR S 0 = S := by funext k; unfold turnR; rw [if_neg (by omega)]
  refine lk1 (fun d t i => L_Sh_changeSides_90 κ d a i t) (fun z => ∃ dt', z = some dt' ∧ ShD κ dt' a (turnR S (nR S)) ∧ Same (shW κ a) dt dt') (fun i t => ShD κ t a (turnR S i) ∧ Same (shW κ a) dt t) (n := nR S) ?_ ?_ (nR S) 0 FU dt (by omega) (FUn (by omega)) ⟨by rw [t0]; exact h, Same.rf _ _⟩
  · rintro d t ⟨g1, g2⟩
    have h12 : gi t a 12 = nI (nR S) := by rw [g1.2.1.2.2.2.2.2.2.1, turnR_at (Or.inl (by omega))]; exact h7
    rw [L_Sh_changeSides_90, h12, if_pos (nI_le (Nat.le_refl _) (by omega))]
    exact ⟨t, rfl, g1, g2⟩
  · rintro d t i hi ⟨g1, g2⟩ ih
    have h12 : gi t a 12 = nI (nR S) := by rw [g1.2.1.2.2.2.2.2.2.1, turnR_at (Or.inl (by omega))]; exact h7
    have at_ : turnR S i (810 + 7 * i + 0) = S (810 + 7 * i + 0) := turnR_at (Or.inr (by omega))
    rw [L_Sh_changeSides_90, h12, if_neg (nI_ge hi (by omega)), rdR g1 (by rw [nRt]; exact hR) (by rw [nRt]; exact hi) (u := 0) (y := 0) (by decide) rfl, bnd_t, at_, d_putR t (y := 0) (p := 0) rfl (by omega) (by decide), bnd_t, nI_1]
    have s1 := setR_sh (r := i) (p := 0) (v := if S (810 + 7 * i + 0) = 0 then 1 else 0) g1 (by rw [nFt]; exact hF) (by omega) (by decide)
    rw [turnR_step] at s1
    exact ih _ ⟨s1, g2.tr setR_same⟩
end SetR
