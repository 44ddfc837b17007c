/-- a row turned -/
def turnS (S : Nat → Int32) : Nat → Int32 := turnR (turnF S (nF S)) (nR S)
section TurnS
variable {S : Nat → Int32}
theorem turnS_lo {k : Nat} (h1 : 1 < k) (h : k < 10) : turnS S k = S k := by
  unfold turnS
  rw [turnR_at (Or.inl (by omega)), turnF_at h1 (Or.inl h)]
theorem turnS_0 : turnS S 0 = S 1 := by unfold turnS; rw [turnR_at (Or.inl (by omega))]; rfl
theorem turnS_1 : turnS S 1 = S 0 := by unfold turnS; rw [turnR_at (Or.inl (by omega))]; rfl
theorem turnS_e {f u : Nat} (hF : nF S ≤ 200) (hf : f < nF S) (hu : u < 4) (he : u % 2 = 0) : turnS S (10 + 4 * f + u) = S (10 + 4 * f + (u + 1)) := by
  unfold turnS
  rw [turnR_at (Or.inl (by omega))]
  unfold turnF
  rw [if_neg (by omega), if_neg (by omega), if_pos (by omega), if_pos (by omega)]
  rfl
theorem turnS_o {f u : Nat} (hF : nF S ≤ 200) (hf : f < nF S) (hu : u + 1 < 4) (he : u % 2 = 0) : turnS S (10 + 4 * f + (u + 1)) = S (10 + 4 * f + u) := by
  unfold turnS
  rw [turnR_at (Or.inl (by omega))]
  unfold turnF
  rw [if_neg (by omega), if_neg (by omega), if_pos (by omega), if_neg (by omega)]
  rfl
theorem turnS_r {r u : Nat} (hF : nF S ≤ 200) (hu : 0 < u) (hu2 : u < 7) : turnS S (810 + 7 * r + u) = S (810 + 7 * r + u) := by
  unfold turnS turnR
  rw [if_neg (by omega), turnF_at (by omega) (Or.inr (by omega))]
theorem turnS_r0 {r : Nat} (hF : nF S ≤ 200) (hr : r < nR S) : turnS S (810 + 7 * r + 0) = if S (810 + 7 * r + 0) = 0 then 1 else 0 := by
  unfold turnS turnR
  rw [if_pos (show 810 ≤ 810 + 7 * r + 0 ∧ 810 + 7 * r + 0 < 810 + 7 * nR S ∧ (810 + 7 * r + 0 - 810) % 7 = 0 by omega), turnF_at (by omega) (Or.inr (by omega))]
theorem SOK.turn (h : SOK S) : SOK (turnS S) := by
  have hF := h.nF
  have hR := h.nR
  have eF : Pilot.@@N@@.nF (turnS S) = Pilot.@@N@@.nF S := by unfold Pilot.@@N@@.nF; rw [turnS_lo (by decide) (by decide)]
  have eR : Pilot.@@N@@.nR (turnS S) = Pilot.@@N@@.nR S := by unfold Pilot.@@N@@.nR; rw [turnS_lo (by decide) (by decide)]
  have f0 : ∀ f, f < Pilot.@@N@@.nF S → fN (turnS S) f 0 = fN S f 1 := fun f hf => by unfold fN; rw [turnS_e hF.2.1 hf (by decide) (by decide)]
  have f1 : ∀ f, f < Pilot.@@N@@.nF S → fN (turnS S) f 1 = fN S f 0 := fun f hf => by unfold fN; rw [turnS_o (u := 0) hF.2.1 hf (by decide) (by decide)]
  have f2 : ∀ f, f < Pilot.@@N@@.nF S → fN (turnS S) f 2 = fN S f 3 := fun f hf => by unfold fN; rw [turnS_e hF.2.1 hf (by decide) (by decide)]
  have f3 : ∀ f, f < Pilot.@@N@@.nF S → fN (turnS S) f 3 = fN S f 2 := fun f hf => by unfold fN; rw [turnS_o (u := 2) hF.2.1 hf (by decide) (by decide)]
  have s0 : sN (turnS S) 0 = sN S 1 := by unfold sN; rw [turnS_0]
  have s1 : sN (turnS S) 1 = sN S 0 := by unfold sN; rw [turnS_1]
  refine ⟨⟨?_, ?_, ?_, ?_, ?_, ?_, ?_, ?_, ?_, ?_⟩, ?_, ?_, ?_, ?_, ?_⟩
  · rw [turnS_0]; exact h.1.2.1
  · rw [turnS_1]; exact h.1.1
  · rw [turnS_lo (by decide) (by decide)]; exact h.1.2.2.1
  · rw [turnS_lo (by decide) (by decide)]; exact h.1.2.2.2.1
  · rw [turnS_lo (by decide) (by decide)]; exact h.1.2.2.2.2.1
  · rw [turnS_lo (by decide) (by decide)]; exact h.1.2.2.2.2.2.1
  · rw [turnS_lo (by decide) (by decide)]; exact h.1.2.2.2.2.2.2.1
  · rw [turnS_lo (by decide) (by decide)]; exact h.1.2.2.2.2.2.2.2.1
  · rw [turnS_lo (by decide) (by decide)]; exact h.1.2.2.2.2.2.2.2.2.1
  · rw [turnS_lo (by decide) (by decide)]; exact h.1.2.2.2.2.2.2.2.2.2
  · intro f hf
    rw [eF] at hf
    have := h.2.1 f hf
    rw [turnS_e (u := 0) hF.2.1 hf (by decide) (by decide), turnS_o (u := 0) hF.2.1 hf (by decide) (by decide), turnS_e (u := 2) hF.2.1 hf (by decide) (by decide), turnS_o (u := 2) hF.2.1 hf (by decide) (by decide)]
    exact ⟨this.2.1, this.1, this.2.2.2, this.2.2.1⟩
  · intro r hr
    rw [eR] at hr
    obtain ⟨a0, a1, a2, a3, a4, a5, a6, a7, a8, a9⟩ := h.2.2.1 r hr
    have rr : ∀ u, 0 < u → u < 7 → rN (turnS S) r u = rN S r u := fun u h0 hu => by unfold rN; rw [turnS_r hF.2.1 h0 hu]
    have w0 := a0.cl (by decide)
    rw [turnS_r0 hF.2.1 hr, turnS_r hF.2.1 (by decide) (by decide), turnS_r hF.2.1 (by decide) (by decide), turnS_r hF.2.1 (by decide) (by decide), turnS_r hF.2.1 (by decide) (by decide), turnS_r hF.2.1 (by decide) (by decide), turnS_r hF.2.1 (by decide) (by decide), rr 2 (by decide) (by decide), rr 3 (by decide) (by decide), rr 1 (by decide) (by decide)]
    have hc : rN S r 0 = 0 ∨ rN S r 0 = 1 := by have : rN S r 0 ≤ 1 := w0.2.2; omega
    have wv : S (810 + 7 * r + 0) = nI (rN S r 0) := w0.1
    rcases hc with c | c
    · rw [c] at wv a8 a9
      have e0 : rN (turnS S) r 0 = 1 := by unfold rN; rw [turnS_r0 hF.2.1 hr, wv]; rfl
      rw [e0, wv, s1]
      rw [show sN (turnS S) (1 - 1) = sN S 1 from s0]
      exact ⟨⟨1, rfl, by decide, by decide⟩, a1, a2, a3, a4, a5, a6, a7, a8, a9⟩
    · rw [c] at wv a8 a9
      have e0 : rN (turnS S) r 0 = 0 := by unfold rN; rw [turnS_r0 hF.2.1 hr, wv]; rfl
      rw [e0, wv, s0]
      rw [show sN (turnS S) (1 - 0) = sN S 0 from s1]
      exact ⟨⟨0, rfl, by decide, by decide⟩, a1, a2, a3, a4, a5, a6, a7, a8, a9⟩
  · intro f hf
    rw [eF] at hf
    rw [f0 f hf, f1 f hf, f2 f hf, f3 f hf, s0, s1]
    exact ⟨(h.2.2.2.1 f hf).2, (h.2.2.2.1 f hf).1⟩
  · intro f g hf hg hne
    rw [eF] at hf hg
    rw [f0 f hf, f1 f hf, f2 f hf, f3 f hf, f0 g hg, f1 g hg, f2 g hg, f3 g hg]
    have := h.2.2.2.2.1 f g hf hg hne
    omega
  · rw [eF, cnt2_congr (Q := bsd S)]
    · exact h.2.2.2.2.2
    · intro m i hm hi
      rw [bsd_bq, bsd_bq, f0 m hm, f1 m hm, f2 m hm, f3 m hm, f0 i (by omega), f1 i (by omega), f2 i (by omega), f3 i (by omega), bq_swap]
end TurnS
