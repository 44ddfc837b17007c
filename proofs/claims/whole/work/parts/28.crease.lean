theorem bsd_bq (S : Nat → Int32) (f g : Nat) : bsd S f g = bq (fN S f 0) (fN S f 1) (fN S f 2) (fN S f 3) (fN S g 0) (fN S g 1) (fN S g 2) (fN S g 3) := rfl
theorem cnt2_congr {P Q : Nat → Nat → Bool} {n : Nat} (h : ∀ m i, m < n → i < m → P m i = Q m i) : cnt2 P n = cnt2 Q n := by
  induction n with
  | zero => rfl
  | succ n ih =>
    have e := ih (fun m i hm hi => h m i (by omega) hi)
    have e2 : cnt (P n) n = cnt (Q n) n := cnt_congr (fun i hi => h n i (by omega) hi)
    unfold cnt2
    rw [e, e2]
theorem SOK.ridge {S : Nat → Int32} (h : SOK S) {n w p f t k : Nat} (hn : Pilot.@@N@@.nR S = n) (hn2 : n < 400) (hw : w < 2) (p0 : 1 ≤ p) (p1 : p < sN S w) (hft : f < t) (ht : t ≤ sN S (1 - w)) (hk : k ≤ 1) : SOK (ridgeS S n (nI w) (nI p) (nI f) (nI t) (nI k)) := by
  have lo : ∀ j, j < 810 → j ≠ 7 → ridgeS S n (nI w) (nI p) (nI f) (nI t) (nI k) j = S j := fun j hj h7 => ridgeS_lo hj h7
  have hF : Pilot.@@N@@.nF (ridgeS S n (nI w) (nI p) (nI f) (nI t) (nI k)) = Pilot.@@N@@.nF S := by unfold Pilot.@@N@@.nF; rw [lo _ (by omega) (by omega)]
  have hR : Pilot.@@N@@.nR (ridgeS S n (nI w) (nI p) (nI f) (nI t) (nI k)) = n + 1 := by unfold Pilot.@@N@@.nR; rw [ridgeS_7, nI_clamp (by omega)]
  have b0 : sN S 0 ≤ 200 := ((h.1.1).cl (by decide)).2.2
  have b1' : sN S 1 ≤ 200 := ((h.1.2.1).cl (by decide)).2.2
  have bw : ∀ z, z < 2 → sN S z ≤ 200 := fun z hz => by
    have hc : z = 0 ∨ z = 1 := by omega
    rcases hc with rfl | rfl
    · exact b0
    · exact b1'
  have bw1 := bw w hw
  have bw2 := bw (1 - w) (by omega)
  have hF2 := h.nF.2.1
  have fe : ∀ g u, g < Pilot.@@N@@.nF S → u < 4 → ridgeS S n (nI w) (nI p) (nI f) (nI t) (nI k) (10 + 4 * g + u) = S (10 + 4 * g + u) := fun g u hg hu => lo _ (by omega) (by omega)
  have fne : ∀ g u, g < Pilot.@@N@@.nF S → u < 4 → fN (ridgeS S n (nI w) (nI p) (nI f) (nI t) (nI k)) g u = fN S g u := fun g u hg hu => by unfold fN; rw [fe g u hg hu]
  have se : ∀ z, z < 2 → sN (ridgeS S n (nI w) (nI p) (nI f) (nI t) (nI k)) z = sN S z := fun z hz => by unfold sN; rw [lo z (by omega) (by omega)]
  refine ⟨⟨?_, ?_, ?_, ?_, ?_, ?_, ?_, ?_, ?_, ?_⟩, ?_, ?_, ?_, ?_, ?_⟩
  · rw [lo _ (by omega) (by omega)]; exact h.1.1
  · rw [lo _ (by omega) (by omega)]; exact h.1.2.1
  · rw [lo _ (by omega) (by omega)]; exact h.1.2.2.1
  · rw [lo _ (by omega) (by omega)]; exact h.1.2.2.2.1
  · rw [lo _ (by omega) (by omega)]; exact h.1.2.2.2.2.1
  · rw [lo _ (by omega) (by omega)]; exact h.1.2.2.2.2.2.1
  · rw [lo _ (by omega) (by omega)]; exact h.1.2.2.2.2.2.2.1
  · rw [ridgeS_7]; exact isN_of (by omega) (by omega)
  · rw [lo _ (by omega) (by omega)]; exact h.1.2.2.2.2.2.2.2.2.1
  · rw [lo _ (by omega) (by omega)]; exact h.1.2.2.2.2.2.2.2.2.2
  · intro g hg
    rw [hF] at hg
    rw [fe g 0 hg (by decide), fe g 1 hg (by decide), fe g 2 hg (by decide), fe g 3 hg (by decide)]
    exact h.2.1 g hg
  · intro r hr
    rw [hR] at hr
    by_cases e : r = n
    · subst e
      have r0 : rN (ridgeS S r (nI w) (nI p) (nI f) (nI t) (nI k)) r 0 = w := by unfold rN; rw [ridgeS_new0, nI_clamp (by omega)]
      have r1 : rN (ridgeS S r (nI w) (nI p) (nI f) (nI t) (nI k)) r 1 = p := by unfold rN; rw [ridgeS_new1, nI_clamp (by omega)]
      have r2 : rN (ridgeS S r (nI w) (nI p) (nI f) (nI t) (nI k)) r 2 = f := by unfold rN; rw [ridgeS_new2, nI_clamp (by omega)]
      have r3 : rN (ridgeS S r (nI w) (nI p) (nI f) (nI t) (nI k)) r 3 = t := by unfold rN; rw [ridgeS_new3, nI_clamp (by omega)]
      rw [r0, r1, r2, r3, se w hw, se (1 - w) (by omega), ridgeS_new0, ridgeS_new1, ridgeS_new2, ridgeS_new3, ridgeS_new4, ridgeS_new5, ridgeS_new6]
      exact ⟨isN_of (by omega) (by omega), isN_of p0 (by omega), isN_of (by omega) (by omega), isN_of (by omega) (by omega), h.1.2.2.2.2.2.1, isN_of (by omega) hk, ⟨1, rfl, by decide, by decide⟩, hft, p1, ht⟩
    · have rh : ∀ u, u < 7 → ridgeS S n (nI w) (nI p) (nI f) (nI t) (nI k) (810 + 7 * r + u) = S (810 + 7 * r + u) := fun u hu => ridgeS_old (by omega) hu
      have rr : ∀ u, u < 7 → rN (ridgeS S n (nI w) (nI p) (nI f) (nI t) (nI k)) r u = rN S r u := fun u hu => by unfold rN; rw [rh u hu]
      have hr' : r < Pilot.@@N@@.nR S := by omega
      have hw0 : rN S r 0 ≤ 1 := ((h.2.2.1 r hr').1.cl (by decide)).2.2
      rw [rh 0 (by decide), rh 1 (by decide), rh 2 (by decide), rh 3 (by decide), rh 4 (by decide), rh 5 (by decide), rh 6 (by decide), rr 0 (by decide), rr 1 (by decide), rr 2 (by decide), rr 3 (by decide), se _ (by omega), se _ (by omega)]
      exact h.2.2.1 r hr'
  · intro g hg
    rw [hF] at hg
    rw [se 0 (by decide), se 1 (by decide), fne g 0 hg (by decide), fne g 1 hg (by decide), fne g 2 hg (by decide), fne g 3 hg (by decide)]
    exact h.2.2.2.1 g hg
  · intro g j hg hj hne
    rw [hF] at hg hj
    rw [fne g 0 hg (by decide), fne g 1 hg (by decide), fne g 2 hg (by decide), fne g 3 hg (by decide), fne j 0 hj (by decide), fne j 1 hj (by decide), fne j 2 hj (by decide), fne j 3 hj (by decide)]
    exact h.2.2.2.2.1 g j hg hj hne
  · rw [hF, cnt2_congr (Q := bsd S)]
    · exact h.2.2.2.2.2
    · intro m i hm hi
      rw [bsd_bq, bsd_bq, fne m 0 hm (by decide), fne m 1 hm (by decide), fne m 2 hm (by decide), fne m 3 hm (by decide), fne i 0 (by omega) (by decide), fne i 1 (by omega) (by decide), fne i 2 (by omega) (by decide), fne i 3 (by omega) (by decide)]
/-- a cut and a ridge in either order -/
theorem cut_ridge {S : Nat → Int32} {n m f w : Nat} {p a b c d e : Int32} (hn : n < 200) (hf : f < n) : cutS (ridgeS S m a b c d e) n f w p = ridgeS (cutS S n f w p) m a b c d e := by
  have L : ∀ j, j < 810 → j ≠ 7 → ridgeS S m a b c d e j = S j := fun j hj h7 => ridgeS_lo hj h7
  have L7 : ∀ j, j < 810 → j ≠ 7 → ridgeS (cutS S n f w p) m a b c d e j = cutS S n f w p j := fun j hj h7 => ridgeS_lo hj h7
  have c5 : cutS S n f w p 5 = S 5 := cutS_lo (by decide) (by decide)
  funext k
  by_cases hk : k < 810
  · by_cases h7 : k = 7
    · subst h7
      rw [cutS_lo (by decide) (by decide), ridgeS_7, ridgeS_7]
    · rw [L7 k hk h7]
      unfold cutS
      by_cases hw : w = 0
      · rw [if_pos hw, if_pos hw, L _ (by omega) (by omega), L _ (by omega) (by omega), L _ (by omega) (by omega), L _ (by omega) (by omega)]
        unfold comeS setS
        rw [L k hk h7]
      · rw [if_neg hw, if_neg hw, L _ (by omega) (by omega), L _ (by omega) (by omega), L _ (by omega) (by omega), L _ (by omega) (by omega)]
        unfold comeS setS
        rw [L k hk h7]
  · rw [cutS_hi hn hf (by omega)]
    unfold ridgeS
    unfold setS
    rw [c5, cutS_hi (k := k) hn hf (by omega)]
