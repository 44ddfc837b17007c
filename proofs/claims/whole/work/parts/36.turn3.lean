section Turn3
variable {κ : Ko} {dt rt : AS} {a q s : Nat}
theorem turnF_0 (S : Nat → Int32) : turnF S 0 = setS (setS S 0 (S 1)) 1 (S 0) := by
  funext k
  unfold turnF setS
  by_cases h0 : k = 0
  · rw [if_pos h0, if_neg (by omega), if_pos h0]
  · rw [if_neg h0, if_neg h0]
    by_cases h1 : k = 1
    · rw [if_pos h1, if_pos h1]
    · rw [if_neg h1, if_neg h1, if_neg (by omega)]
theorem swap_sh {S : Nat → Int32} (h : ShD κ dt a S) : ShD κ (ui (ui dt a 8 (gi dt a 9)) a 9 (gi dt a 8)) a (turnF S 0) := by
  obtain ⟨h1, ⟨f0, f1, f2, f3, f4, f5, f6, f7, f8⟩, hl, hfa, hri, hd⟩ := h
  have at_ : ∀ k, 1 < k → turnF S 0 k = S k := fun k hk => turnF_at hk (by omega)
  have e6 : nF (turnF S 0) = nF S := by unfold nF; rw [at_ 6 (by decide)]
  have e7 : nR (turnF S 0) = nR S := by unfold nR; rw [at_ 7 (by decide)]
  have e5 : rD (turnF S 0) = rD S := by unfold rD; rw [at_ 5 (by decide)]
  have ga : ∀ k, k ≠ 8 → k ≠ 9 → gi (ui (ui dt a 8 (gi dt a 9)) a 9 (gi dt a 8)) a k = gi dt a k := fun k h8 h9 => by rw [gi_ui, if_neg (by omega), gi_ui, if_neg (by omega)]
  have gb : ∀ p k, p ≠ a → gi (ui (ui dt a 8 (gi dt a 9)) a 9 (gi dt a 8)) p k = gi dt p k := fun p k hp => by rw [gi_ui, if_neg (fun z => hp z.1), gi_ui, if_neg (fun z => hp z.1)]
  refine ⟨h1, ⟨?_, ?_, trivial, ?_, ?_, ?_, ?_, ?_, ?_⟩, ?_, ?_, ?_, ?_⟩
  · rw [gi_ui, if_neg (by omega), gi_ui, if_pos ⟨rfl, rfl⟩]; exact f1
  · rw [gi_ui, if_pos ⟨rfl, rfl⟩]; exact f0
  · rw [at_ 4 (by decide)]; exact f3
  · rw [ga _ (by decide) (by decide), at_ 5 (by decide)]; exact f4
  · rw [ga _ (by decide) (by decide), at_ 6 (by decide)]; exact f5
  · rw [ga _ (by decide) (by decide), at_ 7 (by decide)]; exact f6
  · rw [ga _ (by decide) (by decide), at_ 8 (by decide)]; exact f7
  · rw [ga _ (by decide) (by decide), at_ 9 (by decide)]; exact f8
  · rw [at_ 2 (by decide)]; exact hl
  · intro g hg u hu
    rw [e6] at hg
    rw [gb _ _ (by omega), at_ _ (by omega)]
    exact hfa g hg u hu
  · intro r hr u hu
    rw [e7] at hr
    rw [gb _ _ (by omega), at_ _ (by omega)]
    exact hri r hr u hu
  · intro k hk hk0
    rw [e5] at hk
    rw [gb _ _ (by omega), at_ _ (by omega)]
    exact hd k hk hk0
theorem q_turn (h : SR κ dt a rt q s) : ∃ dt' rt', f_Sh_changeSides κ a dt = some dt' ∧ f_R_turns κ q (nI s) rt = some rt' ∧ SR κ dt' a rt' q s ∧ Same (shW κ a) dt dt' ∧ FrR q s rt rt' := by
  obtain ⟨hD, hS, hs⟩ := h
  have hF := hS.nF
  have hR := hS.nR
  have eF : nF (turnF (rw_ rt q s) (nF (rw_ rt q s))) = nF (rw_ rt q s) := by unfold nF; rw [turnF_at (by decide) (Or.inl (by decide))]
  have eR : nR (turnF (rw_ rt q s) (nF (rw_ rt q s))) = nR (rw_ rt q s) := by unfold nR; rw [turnF_at (by decide) (Or.inl (by decide))]
  have e7 : turnF (rw_ rt q s) (nF (rw_ rt q s)) 7 = nI (nR (rw_ rt q s)) := by rw [turnF_at (by decide) (Or.inl (by decide))]; exact hR.1
  have eT : turnR (turnF (rw_ rt q s) (nF (rw_ rt q s))) (nR (turnF (rw_ rt q s) (nF (rw_ rt q s)))) = turnS (rw_ rt q s) := by rw [eR]; rfl
  unfold f_Sh_changeSides f_R_turns
  obtain ⟨d1, g1, g2, g3⟩ := d_turnF (κ := κ) (swap_sh hD) hF.1 hF.2.1 (fun (v18 : Nat) (s20 : AS) => L_Sh_changeSides_90 κ FU v18 (0 : Int32) s20)
  obtain ⟨d2, k1, k2, k3⟩ := d_turnR (κ := κ) g2 (by rw [eR]; exact e7) (by rw [eR]; exact hR.2) (by rw [eF]; exact hF.2.1)
  obtain ⟨r0, a1, a2, a3⟩ := r_exch (κ := κ) (rt := rt) (q := q) hs (j1 := 0) (j2 := 1) (by decide) (by decide) (by decide) (by decide)
  obtain ⟨r1, b1', b2, b3⟩ := r_turnF (κ := κ) (rt := r0) (q := q) (S := rw_ rt q s) hs (by rw [a2, turnF_0]) hF.1 hF.2.1 (fun (v9 : Nat) (v11 : Int32) (s12 : AS) => L_R_turns_68 κ FU v9 v11 (0 : Int32) s12)
  obtain ⟨r2, c1, c2, c3⟩ := r_turnR (κ := κ) (rt := r1) (q := q) hs b2 (by rw [eR]; exact e7) (by rw [eR]; exact hR.2) (fun r hr => by
    rw [eR] at hr
    rw [turnF_at (by omega) (Or.inr (by omega))]
    exact (hS.2.2.1 r hr).1)
  rw [eT] at k2 c2
  refine ⟨d2, r2, ?_, ?_, ⟨by rw [c2]; exact k2, by rw [c2]; exact hS.turn, hs⟩, ?_, (a3.tr b3).tr c3⟩
  · rw [g1]; exact k1
  · rw [ixS0, show nI (3680 * s + 0) + 1 = nI (3680 * s + 1) from nI_1 _, a1, bnd_t, b1']; exact c1
  · exact ((((Same.rf _ dt).ui (shW_0 (by decide))).ui (shW_0 (by decide))).tr g3).tr k3
end Turn3
