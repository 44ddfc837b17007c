/-! how often a ridge was used: a row's second property -/
theorem sok_like {S S' : Nat → Int32} (h : SOK S) (lo : ∀ k, k < 10 → k ≠ 4 → k ≠ 5 → S' k = S k) (h4 : isN (S' 4) 0 2147483647) (h5 : isN (S' 5) 0 60) (fe : ∀ g u, g < nF S → u < 4 → S' (10 + 4 * g + u) = S (10 + 4 * g + u)) (re : ∀ r u, r < nR S → u < 6 → S' (810 + 7 * r + u) = S (810 + 7 * r + u)) (hu : ∀ r, r < nR S → isN (S' (810 + 7 * r + 6)) 1 61) : SOK S' := by
  have e6 : nF S' = nF S := by unfold nF; rw [lo 6 (by decide) (by decide) (by decide)]
  have e7 : nR S' = nR S := by unfold nR; rw [lo 7 (by decide) (by decide) (by decide)]
  have fne : ∀ g u, g < nF S → u < 4 → fN S' g u = fN S g u := fun g u hg hu => by unfold fN; rw [fe g u hg hu]
  have se : ∀ z, z < 2 → sN S' z = sN S z := fun z hz => by unfold sN; rw [lo z (by omega) (by omega) (by omega)]
  obtain ⟨⟨a0, a1, a2, a3, a4, a5, a6, a7, a8, a9⟩, hF, hR, hG⟩ := h
  refine ⟨⟨by rw [lo 0 (by decide) (by decide) (by decide)]; exact a0, by rw [lo 1 (by decide) (by decide) (by decide)]; exact a1, by rw [lo 2 (by decide) (by decide) (by decide)]; exact a2, by rw [lo 3 (by decide) (by decide) (by decide)]; exact a3, h4, h5, by rw [lo 6 (by decide) (by decide) (by decide)]; exact a6, by rw [lo 7 (by decide) (by decide) (by decide)]; exact a7, by rw [lo 8 (by decide) (by decide) (by decide)]; exact a8, by rw [lo 9 (by decide) (by decide) (by decide)]; exact a9⟩, fun f hf => ?_, fun r hr => ?_, ?_, ?_, ?_⟩
  · rw [e6] at hf
    rw [fe f 0 hf (by decide), fe f 1 hf (by decide), fe f 2 hf (by decide), fe f 3 hf (by decide)]
    exact hF f hf
  · rw [e7] at hr
    obtain ⟨b0, b1, b2, b3, b4, b5, b6, b7, b8, b9⟩ := hR r hr
    have hw : rN S r 0 ≤ 1 := (b0.cl (by decide)).2.2
    have rne : ∀ u, u < 6 → rN S' r u = rN S r u := fun u hu => by unfold rN; rw [re r u hr hu]
    rw [re r 0 hr (by decide), re r 1 hr (by decide), re r 2 hr (by decide), re r 3 hr (by decide), re r 4 hr (by decide), re r 5 hr (by decide), rne 0 (by decide), rne 1 (by decide), rne 2 (by decide), rne 3 (by decide), se _ (by omega), se _ (by omega)]
    exact ⟨b0, b1, b2, b3, b4, b5, hu r hr, b7, b8, b9⟩
  · intro f hf
    rw [e6] at hf
    rw [fne f 0 hf (by decide), fne f 1 hf (by decide), fne f 2 hf (by decide), fne f 3 hf (by decide), se 0 (by decide), se 1 (by decide)]
    exact hG.1 f hf
  · intro f g hf hg hfg
    rw [e6] at hf hg
    rw [fne f 0 hf (by decide), fne f 1 hf (by decide), fne f 2 hf (by decide), fne f 3 hf (by decide), fne g 0 hg (by decide), fne g 1 hg (by decide), fne g 2 hg (by decide), fne g 3 hg (by decide)]
    exact hG.2.1 f g hf hg hfg
  · rw [e6]
    have := hG.2.2
    rw [show cnt2 (bsd S') (nF S) = cnt2 (bsd S) (nF S) from cnt2_congr (fun x i hx hi => by
      have hi' : i < nF S := by omega
      rw [bsd_bq, bsd_bq, fne x 0 hx (by decide), fne x 1 hx (by decide), fne x 2 hx (by decide), fne x 3 hx (by decide), fne i 0 hi' (by decide), fne i 1 hi' (by decide), fne i 2 hi' (by decide), fne i 3 hi' (by decide)])]
    exact this
/-- no ridge was used more often than rounds were pressed, and once -/
def UOK (S : Nat → Int32) : Prop := ∀ r, r < nR S → rN S r 6 ≤ rD S + 1
/-- the row as a pressing begins -/
def prS (S : Nat → Int32) : Nat → Int32 := usedS (setS S 5 (nI (rD S + 1))) (nR S)
theorem prS_at {S : Nat → Int32} {k : Nat} (h5 : k ≠ 5) (h : k < 810 ∨ 810 + 7 * nR S ≤ k) : prS S k = S k := by
  unfold prS
  rw [usedS_at h]
  exact if_neg h5
theorem prS_5 {S : Nat → Int32} : prS S 5 = nI (rD S + 1) := by
  unfold prS
  rw [usedS_at (by omega)]
  exact if_pos rfl
theorem prS_r {S : Nat → Int32} {r u : Nat} (hu : u < 6) : prS S (810 + 7 * r + u) = S (810 + 7 * r + u) := by
  unfold prS usedS
  rw [if_neg (by omega)]
  exact if_neg (by omega)
theorem prS_u {S : Nat → Int32} {r : Nat} (hr : r < nR S) : prS S (810 + 7 * r + 6) = S (810 + 7 * r + 6) + 1 := by
  unfold prS usedS
  rw [if_pos (by omega), show setS S 5 (nI (rD S + 1)) (810 + 7 * r + 6) = S (810 + 7 * r + 6) from if_neg (by omega)]
theorem prS_ok {S : Nat → Int32} (hk : SOK S) (hU : UOK S) (hr : rD S < 60) : SOK (prS S) ∧ UOK (prS S) := by
  have h6 := sok_6 hk
  have hun : ∀ r, r < nR S → prS S (810 + 7 * r + 6) = nI (rN S r 6 + 1) ∧ 1 ≤ rN S r 6 := fun r hr => by
    have := ((hk.2.2.1 r hr).2.2.2.2.2.2.1).cl (by decide)
    refine ⟨?_, this.2.1⟩
    rw [prS_u hr, this.1, nI_1]
    rfl
  have e5 : rD (prS S) = rD S + 1 := by unfold rD; rw [prS_5]; exact nI_clamp (by have : rD S < 60 := hr; unfold rD at this ⊢; omega)
  refine ⟨sok_like hk (fun k h1 h2 h3 => prS_at h3 (by omega)) (by rw [prS_at (by decide) (by omega)]; exact hk.1.2.2.2.2.1) (by rw [prS_5]; exact ⟨rD S + 1, rfl, Nat.zero_le _, by omega⟩) (fun g u hg hu => prS_at (by omega) (by omega)) (fun r u _ hu => prS_r hu) (fun r hr' => ?_), fun r hr' => ?_⟩
  · obtain ⟨u1, u2⟩ := hun r hr'
    have := hU r hr'
    rw [u1]
    exact ⟨_, rfl, by omega, by omega⟩
  · have e7 : nR (prS S) = nR S := by unfold nR; rw [prS_at (by decide) (by omega)]
    rw [e7] at hr'
    obtain ⟨u1, u2⟩ := hun r hr'
    have := hU r hr'
    rw [e5]
    unfold rN
    rw [u1, nI_clamp (by omega)]
    omega
