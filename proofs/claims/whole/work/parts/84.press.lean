/-! a pressing: both classes together -/
section Press
variable {κ : Ko} {a q s f m : Nat} {S : Nat → Int32} {g : Int32} {L : List (Nat × Nat)} {K : List c4}
/-- the length of all ridges -/
def totL (S : Nat → Int32) : Nat → Nat → Int32 → Int32
  | 0, _, t => t
  | n + 1, i, t => totL S n (i + 1) (t + (S (810 + 7 * i + 3) - S (810 + 7 * i + 2)))
theorem totL_eq {S T : Nat → Int32} : ∀ n i t, (∀ r, i ≤ r → r < i + n → S (810 + 7 * r + 3) = T (810 + 7 * r + 3) ∧ S (810 + 7 * r + 2) = T (810 + 7 * r + 2)) → totL S n i t = totL T n i t
  | 0, _, _, _ => rfl
  | n + 1, i, t, h => by
    rw [totL, totL, (h i (Nat.le_refl _) (by omega)).1, (h i (Nat.le_refl _) (by omega)).2]
    exact totL_eq n (i + 1) _ (fun r h1 h2 => h r (by omega) (by omega))
theorem d_totL {dt : AS} (h : ShD κ dt a S) (h7 : S 7 = nI (nR S)) (hR : nR S ≤ 400) (h4 : ∀ r, r < nR S → isN (S (810 + 7 * r + 4)) 0 60) : ∀ n i d t, i + n = nR S → n < d → L_Sh_lengthOfRounds_5 κ dt d a 0 60 t (nI i) = some (totL S n i t)
  | 0, i, d, t, hi, hd => by
    obtain ⟨d, rfl⟩ : ∃ e, d = e + 1 := ⟨d - 1, by omega⟩
    rw [L_Sh_lengthOfRounds_5, h.2.1.2.2.2.2.2.2.1, h7, if_pos (nI_le (by omega) (by omega))]
    rfl
  | n + 1, i, d, t, hi, hd => by
    obtain ⟨d, rfl⟩ : ∃ e, d = e + 1 := ⟨d - 1, by omega⟩
    have e4 := (h4 i (by omega)).cl (by decide)
    have hw : wi (S (810 + 7 * i + 4)).toInt64 (0 : Int32).toInt64 (60 : Int32).toInt64 = 1 := by
      rw [e4.1]; exact wi_n (Nat.zero_le _) e4.2.2 (by decide)
    rw [L_Sh_lengthOfRounds_5, h.2.1.2.2.2.2.2.2.1, h7, if_neg (nI_ge (by omega) (by omega)), rdR h hR (r := i) (by omega) (u := 4) (y := 4) (by decide) rfl, bnd_t, hw, if_neg (by decide)]
    unfold f_Sh_lengthOf
    rw [rdR h hR (r := i) (by omega) (u := 3) (y := 3) (by decide) rfl, bnd_t, rdR h hR (r := i) (by omega) (u := 2) (y := 2) (by decide) rfl, bnd_t, bnd_t, nI_1]
    exact d_totL h h7 hR h4 n (i + 1) d _ (by omega) (by omega)
theorem d_tot {dt : AS} (h : ShD κ dt a S) (h7 : S 7 = nI (nR S)) (hR : nR S ≤ 400) (h4 : ∀ r, r < nR S → isN (S (810 + 7 * r + 4)) 0 60) : f_Sh_lengthOfRounds κ a 0 60 dt = some (totL S (nR S) 0 0) :=
  d_totL h h7 hR h4 (nR S) 0 FU 0 (by omega) (FUn (by omega))
theorem r_totL {rt : AS} (h : rw_ rt q s = S) (hs : s < 7) (h7 : S 7 = nI (nR S)) (hR : nR S ≤ 400) : ∀ n i d t, i + n = nR S → n < d → L_R_together_4 κ rt d q (nI s) t (nI i) = some (totL S n i t)
  | 0, i, d, t, hi, hd => by
    obtain ⟨d, rfl⟩ : ∃ e, d = e + 1 := ⟨d - 1, by omega⟩
    rw [L_R_together_4, rs_any (k := 7) (y := 7) h hs (by decide) rfl, bnd_t, h7, if_pos (nI_le (by omega) (by omega))]
    rfl
  | n + 1, i, d, t, hi, hd => by
    obtain ⟨d, rfl⟩ : ∃ e, d = e + 1 := ⟨d - 1, by omega⟩
    rw [L_R_together_4, rs_any (k := 7) (y := 7) h hs (by decide) rfl, bnd_t, h7, if_neg (nI_ge (by omega) (by omega))]
    unfold f_R_longOf
    rw [r_ridge hs (f := i) (p := 3) (y := 3) (by omega) (by decide) rfl, bnd_t, r_ridge hs (f := i) (p := 2) (y := 2) (by omega) (by decide) rfl, bnd_t, bnd_t, nI_1, h]
    exact r_totL h hs h7 hR n (i + 1) d _ (by omega) (by omega)
theorem r_tot {rt : AS} (h : rw_ rt q s = S) (hs : s < 7) (h7 : S 7 = nI (nR S)) (hR : nR S ≤ 400) : f_R_together κ q (nI s) rt = some (totL S (nR S) 0 0) :=
  r_totL h hs h7 hR (nR S) 0 FU 0 (by omega) (FUn (by omega))
theorem sok_c (hk : SOK S) (hm : 3610 ≤ m) : SOK (setS S m g) :=
  sok_like hk (fun k h1 _ _ => st_at (by omega)) (by rw [st_at (by omega)]; exact hk.1.2.2.2.2.1) (by rw [st_at (by omega)]; exact hk.1.2.2.2.2.2.1)
    (fun u v hu hv => st_at (by have := (sok_6 hk).2.1; omega)) (fun r u hr hu => st_at (by have := (sok_7 hk).2; omega)) (fun r hr => by
      rw [st_at (by have := (sok_7 hk).2; omega)]
      exact (hk.2.2.1 r hr).2.2.2.2.2.2.1)
theorem uok_c (hk : SOK S) (hU : UOK S) (hm : 3610 ≤ m) : UOK (setS S m g) := fun r hr => by
  rw [nR_c hm] at hr
  have := (sok_7 hk).2
  have e : rN (setS S m g) r 6 = rN S r 6 := by unfold rN; rw [st_at (by omega)]
  have e5 : rD (setS S m g) = rD S := by unfold rD; rw [st_at (by omega)]
  rw [e, e5]
  exact hU r hr
/-- the round is one more -/
theorem round_sh {dt : AS} (h : ShD κ dt a S) (hr : rD S < 60) (hF : nF S ≤ 200) (hR : nR S ≤ 400) : ShD κ (ui dt a 10 (nI (rD S + 1))) a (setS (setS S 5 (nI (rD S + 1))) (3610 + (rD S + 1)) (gi dt (a + 3) (rD S + 1))) := by
  obtain ⟨h1, ⟨f0, f1, f2, f3, f4, f5, f6, f7, f8⟩, hl, hfa, hri, hd⟩ := h
  have ga : ∀ k, k ≠ 10 → gi (ui dt a 10 (nI (rD S + 1))) a k = gi dt a k := fun k h => by rw [gi_ui, if_neg (by omega)]
  have gb : ∀ p k, p ≠ a → gi (ui dt a 10 (nI (rD S + 1))) p k = gi dt p k := fun p k hp => by rw [gi_ui, if_neg (fun z => hp z.1)]
  have at_ : ∀ k, k < 3610 → k ≠ 5 → setS (setS S 5 (nI (rD S + 1))) (3610 + (rD S + 1)) (gi dt (a + 3) (rD S + 1)) k = S k := fun k hk h5 => by
    rw [st_at (by omega)]; exact if_neg h5
  have e6 : nF (setS (setS S 5 (nI (rD S + 1))) (3610 + (rD S + 1)) (gi dt (a + 3) (rD S + 1))) = nF S := by unfold nF; rw [at_ 6 (by decide) (by decide)]
  have e7 : nR (setS (setS S 5 (nI (rD S + 1))) (3610 + (rD S + 1)) (gi dt (a + 3) (rD S + 1))) = nR S := by unfold nR; rw [at_ 7 (by decide) (by decide)]
  have e5' : setS (setS S 5 (nI (rD S + 1))) (3610 + (rD S + 1)) (gi dt (a + 3) (rD S + 1)) 5 = nI (rD S + 1) := by rw [st_at (by omega)]; exact if_pos rfl
  have e5 : rD (setS (setS S 5 (nI (rD S + 1))) (3610 + (rD S + 1)) (gi dt (a + 3) (rD S + 1))) = rD S + 1 := by
    have : rD (setS (setS S 5 (nI (rD S + 1))) (3610 + (rD S + 1)) (gi dt (a + 3) (rD S + 1))) = (nI (rD S + 1)).toNatClampNeg := congrArg Int32.toNatClampNeg e5'
    rw [this]; exact nI_clamp (by omega)
  refine ⟨h1, ⟨?_, ?_, trivial, ?_, ?_, ?_, ?_, ?_, ?_⟩, ?_, ?_, ?_, ?_⟩
  · rw [ga _ (by decide), at_ 0 (by decide) (by decide)]; exact f0
  · rw [ga _ (by decide), at_ 1 (by decide) (by decide)]; exact f1
  · rw [at_ 4 (by decide) (by decide)]; exact f3
  · rw [e5', gi_ui, if_pos ⟨rfl, rfl⟩]
  · rw [ga _ (by decide), at_ 6 (by decide) (by decide)]; exact f5
  · rw [ga _ (by decide), at_ 7 (by decide) (by decide)]; exact f6
  · rw [ga _ (by decide), at_ 8 (by decide) (by decide)]; exact f7
  · rw [ga _ (by decide), at_ 9 (by decide) (by decide)]; exact f8
  · rw [at_ 2 (by decide) (by decide)]; exact hl
  · intro u hu v hv
    rw [e6] at hu
    rw [gb _ _ (by omega), at_ _ (by omega) (by omega)]
    exact hfa u hu v hv
  · intro r hr' v hv
    rw [e7] at hr'
    rw [gb _ _ (by omega), at_ _ (by omega) (by omega)]
    exact hri r hr' v hv
  · intro k hk hk0
    rw [e5] at hk
    rw [gb _ _ (by omega)]
    by_cases e : k = rD S + 1
    · rw [e]; exact (if_pos rfl).symm
    · rw [st_at (by omega), show setS S 5 (nI (rD S + 1)) (3610 + k) = S (3610 + k) from if_neg (by omega)]
      exact hd k (by omega) hk0
/-- a foretold number is put -/
theorem fore_sh {dt : AS} {g' : Int32} {r : Nat} (h : ShD κ dt a (setS S (3610 + r) g)) (hF : nF S ≤ 200) (hR : nR S ≤ 400) : ShD κ (ui dt (a + 3) r g') a (setS S (3610 + r) g') := by
  obtain ⟨h1, ⟨f0, f1, f2, f3, f4, f5, f6, f7, f8⟩, hl, hfa, hri, hd⟩ := h
  have gb : ∀ p k, p ≠ a + 3 → gi (ui dt (a + 3) r g') p k = gi dt p k := fun p k hp => by rw [gi_ui, if_neg (fun z => hp z.1)]
  have at_ : ∀ k, k ≠ 3610 + r → setS S (3610 + r) g' k = setS S (3610 + r) g k := fun k hk => by rw [st_at hk, st_at hk]
  have e6 : nF (setS S (3610 + r) g') = nF (setS S (3610 + r) g) := by rw [nF_c (by omega), nF_c (by omega)]
  have e7 : nR (setS S (3610 + r) g') = nR (setS S (3610 + r) g) := by rw [nR_c (by omega), nR_c (by omega)]
  have e5 : rD (setS S (3610 + r) g') = rD (setS S (3610 + r) g) := by unfold rD; rw [at_ 5 (by omega)]
  refine ⟨h1, ⟨?_, ?_, trivial, ?_, ?_, ?_, ?_, ?_, ?_⟩, ?_, ?_, ?_, ?_⟩
  · rw [gb _ _ (by omega), at_ 0 (by omega)]; exact f0
  · rw [gb _ _ (by omega), at_ 1 (by omega)]; exact f1
  · rw [at_ 4 (by omega)]; exact f3
  · rw [gb _ _ (by omega), at_ 5 (by omega)]; exact f4
  · rw [gb _ _ (by omega), at_ 6 (by omega)]; exact f5
  · rw [gb _ _ (by omega), at_ 7 (by omega)]; exact f6
  · rw [gb _ _ (by omega), at_ 8 (by omega)]; exact f7
  · rw [gb _ _ (by omega), at_ 9 (by omega)]; exact f8
  · rw [at_ 2 (by omega)]; exact hl
  · intro u hu v hv
    rw [e6] at hu
    have hu' := hu
    rw [nF_c (by omega)] at hu'
    rw [gb _ _ (by omega), at_ _ (by omega)]
    exact hfa u hu v hv
  · intro r' hr' v hv
    rw [e7] at hr'
    have hu' := hr'
    rw [nR_c (by omega)] at hu'
    rw [gb _ _ (by omega), at_ _ (by omega)]
    exact hri r' hr' v hv
  · intro k hk hk0
    rw [e5] at hk
    by_cases e : k = r
    · rw [e, gi_ui, if_pos ⟨rfl, rfl⟩]; exact (if_pos rfl).symm
    · rw [gi_ui, if_neg (fun z => e z.2), at_ _ (by omega)]
      exact hd k hk hk0
end Press
