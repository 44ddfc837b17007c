section CutS
variable {S : Nat → Int32} {n f w : Nat} {p : Int32}
theorem cutS_6 : cutS S n f w p 6 = nI (n + 1) := by unfold cutS; split <;> exact comeS_6
theorem cutS_lo {k : Nat} (hk : k < 10) (h6 : k ≠ 6) : cutS S n f w p k = S k := by
  unfold cutS
  split <;> rw [comeS_lo hk h6, setF_at (by omega)]
theorem cutS_hi {k : Nat} (hn : n < 200) (hf : f < n) (hk : 810 ≤ k) : cutS S n f w p k = S k := by
  unfold cutS
  split <;> rw [comeS_hi hn hk, setF_at (by omega)]
theorem cutS_old {g u : Nat} (hg : g < n) (hgf : g ≠ f) (hu : u < 4) : cutS S n f w p (10 + 4 * g + u) = S (10 + 4 * g + u) := by
  unfold cutS
  split <;> rw [comeS_old hg hu, setF_at (by omega)]
theorem cutS_f {u : Nat} (hf : f < n) (hw : w < 2) (hu : u < 4) (huw : u ≠ 2 + w) : cutS S n f w p (10 + 4 * f + u) = S (10 + 4 * f + u) := by
  unfold cutS
  split
  · rw [comeS_old hf hu, setF_at (by omega)]
  · rw [comeS_old hf hu, setF_at (by omega)]
theorem cutS_fw (hf : f < n) (hw : w < 2) : cutS S n f w p (10 + 4 * f + (2 + w)) = p := by
  unfold cutS
  split
  · subst_vars; rw [comeS_old hf (by decide)]; exact if_pos rfl
  · obtain rfl : w = 1 := by omega
    rw [comeS_old hf (by decide)]; exact if_pos rfl
theorem cutS_n0 (hw : w < 2) : cutS S n f w p (10 + 4 * n + w) = S (10 + 4 * f + w) + p := by
  unfold cutS
  split
  · subst_vars; exact comeS_new0
  · obtain rfl : w = 1 := by omega
    exact comeS_new1
theorem cutS_n1 (hw : w < 2) : cutS S n f w p (10 + 4 * n + (1 - w)) = S (10 + 4 * f + (1 - w)) := by
  unfold cutS
  split
  · subst_vars; exact comeS_new1
  · obtain rfl : w = 1 := by omega
    exact comeS_new0
theorem cutS_n2 (hw : w < 2) : cutS S n f w p (10 + 4 * n + (2 + w)) = S (10 + 4 * f + (2 + w)) - p := by
  unfold cutS
  split
  · subst_vars; exact comeS_new2
  · obtain rfl : w = 1 := by omega
    exact comeS_new3
theorem cutS_n3 (hw : w < 2) : cutS S n f w p (10 + 4 * n + (3 - w)) = S (10 + 4 * f + (3 - w)) := by
  unfold cutS
  split
  · subst_vars; exact comeS_new3
  · obtain rfl : w = 1 := by omega
    exact comeS_new2
end CutS
theorem SOK.nF {S : Nat → Int32} (h : SOK S) : S 6 = nI (nF S) ∧ nF S ≤ 200 ∧ 1 ≤ nF S := have := (h.1.2.2.2.2.2.2.1).cl (by decide); ⟨this.1, this.2.2, this.2.1⟩
theorem SOK.nR {S : Nat → Int32} (h : SOK S) : S 7 = nI (nR S) ∧ nR S ≤ 400 := have := (h.1.2.2.2.2.2.2.2.1).cl (by decide); ⟨this.1, this.2.2⟩
theorem SOK.rD {S : Nat → Int32} (h : SOK S) : S 5 = nI (rD S) ∧ rD S ≤ 60 := have := (h.1.2.2.2.2.2.1).cl (by decide); ⟨this.1, this.2.2⟩
theorem SOK.fn {S : Nat → Int32} (h : SOK S) {f : Nat} (hf : f < Pilot.@@N@@.nF S) : ∀ u, u < 4 → S (10 + 4 * f + u) = nI (fN S f u) ∧ fN S f u ≤ 200 ∧ (2 ≤ u → 1 ≤ fN S f u) := by
  obtain ⟨h0, h1, h2, h3⟩ := h.2.1 f hf
  intro p hp
  match p, hp with
  | 0, _ => exact ⟨(h0.cl (by decide)).1, Nat.le_trans (h0.cl (by decide)).2.2 (by decide), by omega⟩
  | 1, _ => exact ⟨(h1.cl (by decide)).1, Nat.le_trans (h1.cl (by decide)).2.2 (by decide), by omega⟩
  | 2, _ => exact ⟨(h2.cl (by decide)).1, (h2.cl (by decide)).2.2, fun _ => (h2.cl (by decide)).2.1⟩
  | 3, _ => exact ⟨(h3.cl (by decide)).1, (h3.cl (by decide)).2.2, fun _ => (h3.cl (by decide)).2.1⟩
theorem isN_of {n lo hi : Nat} (h1 : lo ≤ n) (h2 : n ≤ hi) : isN (nI n) lo hi := ⟨n, rfl, h1, h2⟩
theorem SOK.cut {S : Nat → Int32} (h : SOK S) {n f w p : Nat} (hn : Pilot.@@N@@.nF S = n) (hn2 : n < 200) (hf : f < n) (hw : w < 2) (p0 : 0 < p) (p1 : p < fN S f (2 + w)) : SOK (cutS S n f w (nI p)) := by
  have h6 := h.nF
  subst hn
  have hF : Pilot.@@N@@.nF (cutS S (Pilot.@@N@@.nF S) f w (nI p)) = Pilot.@@N@@.nF S + 1 := by unfold Pilot.@@N@@.nF; rw [cutS_6, nI_clamp (by unfold Pilot.@@N@@.nF at hn2; omega)]
  have hR : Pilot.@@N@@.nR (cutS S (Pilot.@@N@@.nF S) f w (nI p)) = Pilot.@@N@@.nR S := by unfold Pilot.@@N@@.nR; rw [cutS_lo (by decide) (by decide)]
  have fx := h.fn hf
  have mw := (fx (2 + w) (by omega)).2.1
  have sw := h.2.2.2.1 f hf
  have b0 : sN S 0 ≤ 200 := ((h.1.1).cl (by decide)).2.2
  have b1' : sN S 1 ≤ 200 := ((h.1.2.1).cl (by decide)).2.2
  -- the facets' numbers after the cut
  have og : ∀ g, g < Pilot.@@N@@.nF S → g ≠ f → ∀ u, u < 4 → fN (cutS S (Pilot.@@N@@.nF S) f w (nI p)) g u = fN S g u := fun g hg hgf u hu => by unfold fN; rw [cutS_old hg hgf hu]
  have ff : ∀ u, u < 4 → u ≠ 2 + w → fN (cutS S (Pilot.@@N@@.nF S) f w (nI p)) f u = fN S f u := fun u hu huw => by unfold fN; rw [cutS_f hf hw hu huw]
  have fw : fN (cutS S (Pilot.@@N@@.nF S) f w (nI p)) f (2 + w) = p := by unfold fN; rw [cutS_fw hf hw, nI_clamp (by have := (fx (2 + w) (by omega)).2.1; omega)]
  have c0 : cutS S (Pilot.@@N@@.nF S) f w (nI p) (10 + 4 * Pilot.@@N@@.nF S + w) = nI (fN S f w + p) := by rw [cutS_n0 hw, (fx w (by omega)).1, nI_add]
  have c1 : cutS S (Pilot.@@N@@.nF S) f w (nI p) (10 + 4 * Pilot.@@N@@.nF S + (1 - w)) = nI (fN S f (1 - w)) := by rw [cutS_n1 hw, (fx (1 - w) (by omega)).1]
  have c2 : cutS S (Pilot.@@N@@.nF S) f w (nI p) (10 + 4 * Pilot.@@N@@.nF S + (2 + w)) = nI (fN S f (2 + w) - p) := by rw [cutS_n2 hw, (fx (2 + w) (by omega)).1, nI_sub (by omega)]
  have c3 : cutS S (Pilot.@@N@@.nF S) f w (nI p) (10 + 4 * Pilot.@@N@@.nF S + (3 - w)) = nI (fN S f (3 - w)) := by rw [cutS_n3 hw, (fx (3 - w) (by omega)).1]
  have m0 := (fx 0 (by decide)).2.1
  have m1 := (fx 1 (by decide)).2.1
  have m2 := (fx 2 (by decide)).2.1
  have m3 := (fx 3 (by decide)).2.1
  have q2 := (fx 2 (by decide)).2.2 (by decide)
  have q3 := (fx 3 (by decide)).2.2 (by decide)
  have n0 : fN (cutS S (Pilot.@@N@@.nF S) f w (nI p)) (Pilot.@@N@@.nF S) w = fN S f w + p := by
    unfold fN; rw [c0, nI_clamp]; rfl
    have := (fx w (by omega)).2.1
    have := (fx (2 + w) (by omega)).2.1
    omega
  have n1 : fN (cutS S (Pilot.@@N@@.nF S) f w (nI p)) (Pilot.@@N@@.nF S) (1 - w) = fN S f (1 - w) := by
    unfold fN; rw [c1, nI_clamp]; rfl
    have := (fx (1 - w) (by omega)).2.1
    omega
  have n2 : fN (cutS S (Pilot.@@N@@.nF S) f w (nI p)) (Pilot.@@N@@.nF S) (2 + w) = fN S f (2 + w) - p := by
    unfold fN; rw [c2, nI_clamp]; rfl
    have := (fx (2 + w) (by omega)).2.1
    omega
  have n3 : fN (cutS S (Pilot.@@N@@.nF S) f w (nI p)) (Pilot.@@N@@.nF S) (3 - w) = fN S f (3 - w) := by
    unfold fN; rw [c3, nI_clamp]; rfl
    have := (fx (3 - w) (by omega)).2.1
    omega
  have lo : ∀ k, k < 10 → k ≠ 6 → cutS S (Pilot.@@N@@.nF S) f w (nI p) k = S k := fun k hk h6 => cutS_lo hk h6
  have hc : w = 0 ∨ w = 1 := by omega
  refine ⟨⟨?_, ?_, ?_, ?_, ?_, ?_, ?_, ?_, ?_, ?_⟩, ?_, ?_, ?_, ?_, ?_⟩
  · rw [lo _ (by decide) (by decide)]; exact h.1.1
  · rw [lo _ (by decide) (by decide)]; exact h.1.2.1
  · rw [lo _ (by decide) (by decide)]; exact h.1.2.2.1
  · rw [lo _ (by decide) (by decide)]; exact h.1.2.2.2.1
  · rw [lo _ (by decide) (by decide)]; exact h.1.2.2.2.2.1
  · rw [lo _ (by decide) (by decide)]; exact h.1.2.2.2.2.2.1
  · rw [cutS_6]; exact isN_of (by omega) (by omega)
  · rw [lo _ (by decide) (by decide)]; exact h.1.2.2.2.2.2.2.2.1
  · rw [lo _ (by decide) (by decide)]; exact h.1.2.2.2.2.2.2.2.2.1
  · rw [lo _ (by decide) (by decide)]; exact h.1.2.2.2.2.2.2.2.2.2
  · intro g hg
    rw [hF] at hg
    by_cases e : g = Pilot.@@N@@.nF S
    · subst e
      rcases hc with rfl | rfl
      · refine ⟨?_, ?_, ?_, ?_⟩
        · rw [c0]; exact isN_of (by omega) (by simp only [Nat.add_zero] at p1; omega)
        · rw [c1]; have := ((h.2.1 f hf).2.1.cl (by decide)).2.2; exact isN_of (by omega) this
        · rw [c2]; exact isN_of (by omega) (by omega)
        · rw [c3]; exact isN_of q3 m3
      · refine ⟨?_, ?_, ?_, ?_⟩
        · rw [c1]; have := ((h.2.1 f hf).1.cl (by decide)).2.2; exact isN_of (by omega) this
        · rw [c0]; exact isN_of (by omega) (by simp only [Nat.reduceAdd] at p1; omega)
        · rw [c3]; exact isN_of q2 m2
        · rw [c2]; exact isN_of (by omega) (by omega)
    · by_cases e2 : g = f
      · subst e2
        rcases hc with rfl | rfl
        · rw [cutS_f hf hw (by decide) (by decide), cutS_f hf hw (by decide) (by decide), cutS_f hf hw (u := 3) (by decide) (by decide)]
          refine ⟨(h.2.1 g hf).1, (h.2.1 g hf).2.1, ?_, (h.2.1 g hf).2.2.2⟩
          rw [cutS_fw hf hw]; exact isN_of (by omega) (by omega)
        · rw [cutS_f hf hw (by decide) (by decide), cutS_f hf hw (by decide) (by decide), cutS_f hf hw (u := 2) (by decide) (by decide)]
          refine ⟨(h.2.1 g hf).1, (h.2.1 g hf).2.1, (h.2.1 g hf).2.2.1, ?_⟩
          rw [cutS_fw hf hw]; exact isN_of (by omega) (by omega)
      · rw [cutS_old (by omega) e2 (by decide), cutS_old (by omega) e2 (by decide), cutS_old (by omega) e2 (by decide), cutS_old (by omega) e2 (by decide)]
        exact h.2.1 g (by omega)
  · intro r hr
    rw [hR] at hr
    have rh : ∀ u, cutS S (Pilot.@@N@@.nF S) f w (nI p) (810 + 7 * r + u) = S (810 + 7 * r + u) := fun u => cutS_hi hn2 hf (by omega)
    have rr : ∀ u, rN (cutS S (Pilot.@@N@@.nF S) f w (nI p)) r u = rN S r u := fun u => by unfold rN; rw [rh]
    have hw0 : rN S r 0 ≤ 1 := ((h.2.2.1 r hr).1.cl (by decide)).2.2
    have rs : ∀ k, k ≤ 1 → sN (cutS S (Pilot.@@N@@.nF S) f w (nI p)) k = sN S k := fun k hk => by unfold sN; rw [lo k (by omega) (by omega)]
    rw [rh, rh, rh, rh, rh, rh, rh, rr, rr, rr, rr, rs _ hw0, rs _ (by omega)]
    exact h.2.2.1 r hr
  · intro g hg
    rw [hF] at hg
    have s0 : sN (cutS S (Pilot.@@N@@.nF S) f w (nI p)) 0 = sN S 0 := by unfold sN; rw [lo 0 (by decide) (by decide)]
    have s1 : sN (cutS S (Pilot.@@N@@.nF S) f w (nI p)) 1 = sN S 1 := by unfold sN; rw [lo 1 (by decide) (by decide)]
    rw [s0, s1]
    by_cases e : g = Pilot.@@N@@.nF S
    · subst e
      rcases hc with rfl | rfl
      · simp only [Nat.add_zero, Nat.sub_zero] at n0 n1 n2 n3 p1
        rw [n0, n1, n2, n3]; omega
      · simp only [Nat.reduceAdd, Nat.reduceSub] at n0 n1 n2 n3 p1
        rw [n0, n1, n2, n3]; omega
    · by_cases e2 : g = f
      · subst e2
        rcases hc with rfl | rfl
        · simp only [Nat.add_zero] at fw p1
          rw [ff 0 (by decide) (by decide), ff 1 (by decide) (by decide), ff 3 (by decide) (by decide), fw]; omega
        · simp only [Nat.reduceAdd] at fw p1
          rw [ff 0 (by decide) (by decide), ff 1 (by decide) (by decide), ff 2 (by decide) (by decide), fw]; omega
      · rw [og g (by omega) e2 0 (by decide), og g (by omega) e2 1 (by decide), og g (by omega) e2 2 (by decide), og g (by omega) e2 3 (by decide)]
        exact h.2.2.2.1 g (by omega)
  · -- none over another
    have base := h.2.2.2.2.1
    have new : ∀ g, g < Pilot.@@N@@.nF S + 1 → (g = Pilot.@@N@@.nF S ∧ (w = 0 ∧ fN (cutS S (Pilot.@@N@@.nF S) f w (nI p)) g 0 = fN S f 0 + p ∧ fN (cutS S (Pilot.@@N@@.nF S) f w (nI p)) g 1 = fN S f 1 ∧ fN (cutS S (Pilot.@@N@@.nF S) f w (nI p)) g 2 = fN S f 2 - p ∧ fN (cutS S (Pilot.@@N@@.nF S) f w (nI p)) g 3 = fN S f 3 ∧ p < fN S f 2 ∨ w = 1 ∧ fN (cutS S (Pilot.@@N@@.nF S) f w (nI p)) g 0 = fN S f 0 ∧ fN (cutS S (Pilot.@@N@@.nF S) f w (nI p)) g 1 = fN S f 1 + p ∧ fN (cutS S (Pilot.@@N@@.nF S) f w (nI p)) g 2 = fN S f 2 ∧ fN (cutS S (Pilot.@@N@@.nF S) f w (nI p)) g 3 = fN S f 3 - p ∧ p < fN S f 3)) ∨ (g = f ∧ (w = 0 ∧ fN (cutS S (Pilot.@@N@@.nF S) f w (nI p)) g 0 = fN S f 0 ∧ fN (cutS S (Pilot.@@N@@.nF S) f w (nI p)) g 1 = fN S f 1 ∧ fN (cutS S (Pilot.@@N@@.nF S) f w (nI p)) g 2 = p ∧ fN (cutS S (Pilot.@@N@@.nF S) f w (nI p)) g 3 = fN S f 3 ∧ p < fN S f 2 ∨ w = 1 ∧ fN (cutS S (Pilot.@@N@@.nF S) f w (nI p)) g 0 = fN S f 0 ∧ fN (cutS S (Pilot.@@N@@.nF S) f w (nI p)) g 1 = fN S f 1 ∧ fN (cutS S (Pilot.@@N@@.nF S) f w (nI p)) g 2 = fN S f 2 ∧ fN (cutS S (Pilot.@@N@@.nF S) f w (nI p)) g 3 = p ∧ p < fN S f 3)) ∨ (g < Pilot.@@N@@.nF S ∧ g ≠ f ∧ fN (cutS S (Pilot.@@N@@.nF S) f w (nI p)) g 0 = fN S g 0 ∧ fN (cutS S (Pilot.@@N@@.nF S) f w (nI p)) g 1 = fN S g 1 ∧ fN (cutS S (Pilot.@@N@@.nF S) f w (nI p)) g 2 = fN S g 2 ∧ fN (cutS S (Pilot.@@N@@.nF S) f w (nI p)) g 3 = fN S g 3) := by
      intro g hg
      by_cases e : g = Pilot.@@N@@.nF S
      · left
        refine ⟨e, ?_⟩
        subst e
        rcases hc with rfl | rfl
        · exact Or.inl ⟨rfl, n0, n1, n2, n3, p1⟩
        · exact Or.inr ⟨rfl, n1, n0, n3, n2, p1⟩
      · right
        by_cases e2 : g = f
        · left
          refine ⟨e2, ?_⟩
          subst e2
          rcases hc with rfl | rfl
          · exact Or.inl ⟨rfl, ff 0 (by decide) (by decide), ff 1 (by decide) (by decide), fw, ff 3 (by decide) (by decide), p1⟩
          · exact Or.inr ⟨rfl, ff 0 (by decide) (by decide), ff 1 (by decide) (by decide), ff 2 (by decide) (by decide), fw, p1⟩
        · right
          exact ⟨by omega, e2, og g (by omega) e2 0 (by decide), og g (by omega) e2 1 (by decide), og g (by omega) e2 2 (by decide), og g (by omega) e2 3 (by decide)⟩
    intro i j hi hj hij
    rw [hF] at hi hj
    have Ni := new i hi
    have Nj := new j hj
    rcases Ni with ⟨ei, Ni⟩ | ⟨ei, Ni⟩ | ⟨hi', ei, Ni⟩ <;> rcases Nj with ⟨ej, Nj⟩ | ⟨ej, Nj⟩ | ⟨hj', ej, Nj⟩
    · omega
    · clear new base; omega
    · have := base f j hf hj' (fun z => ej z.symm)
      clear new base; omega
    · clear new base; omega
    · omega
    · have := base f j hf hj' (fun z => ej z.symm)
      clear new base; omega
    · have := base i f hi' hf ei
      clear new base; omega
    · have := base i f hi' hf ei
      clear new base; omega
    · have := base i j hi' hj' hij
      clear new base; omega
  · -- few beside one another
    have pos : ∀ g, g < Pilot.@@N@@.nF S → 0 < fN S g 2 ∧ 0 < fN S g 3 := fun g hg => ⟨((h.fn hg) 2 (by decide)).2.2 (by decide), ((h.fn hg) 3 (by decide)).2.2 (by decide)⟩
    have b3 := h.2.2.2.2.2
    rw [hF]
    rcases hc with rfl | rfl
    · have := pairs_cut (fun g => fN S g 0) (fun g => fN S g 1) (fun g => fN S g 2) (fun g => fN S g 3) (fun g => fN (cutS S (Pilot.@@N@@.nF S) f 0 (nI p)) g 0) (fun g => fN (cutS S (Pilot.@@N@@.nF S) f 0 (nI p)) g 1) (fun g => fN (cutS S (Pilot.@@N@@.nF S) f 0 (nI p)) g 2) (fun g => fN (cutS S (Pilot.@@N@@.nF S) f 0 (nI p)) g 3) hf p0 p1 pos (fun i j hi hj hij => h.2.2.2.2.1 i j hi hj hij) (fun g hg hgf => ⟨og g hg hgf 0 (by decide), og g hg hgf 1 (by decide), og g hg hgf 2 (by decide), og g hg hgf 3 (by decide)⟩) ⟨ff 0 (by decide) (by decide), ff 1 (by decide) (by decide), fw, ff 3 (by decide) (by decide)⟩ ⟨n0, n1, n2, n3⟩
      have e : cnt2 (bsd (cutS S (Pilot.@@N@@.nF S) f 0 (nI p))) (Pilot.@@N@@.nF S + 1) ≤ cnt2 (bsd S) (Pilot.@@N@@.nF S) + 3 := this
      omega
    · have := pairs_cut (fun g => fN S g 1) (fun g => fN S g 0) (fun g => fN S g 3) (fun g => fN S g 2) (fun g => fN (cutS S (Pilot.@@N@@.nF S) f 1 (nI p)) g 1) (fun g => fN (cutS S (Pilot.@@N@@.nF S) f 1 (nI p)) g 0) (fun g => fN (cutS S (Pilot.@@N@@.nF S) f 1 (nI p)) g 3) (fun g => fN (cutS S (Pilot.@@N@@.nF S) f 1 (nI p)) g 2) hf p0 p1 (fun g hg => ⟨(pos g hg).2, (pos g hg).1⟩) (fun i j hi hj hij => by have := h.2.2.2.2.1 i j hi hj hij; omega) (fun g hg hgf => ⟨og g hg hgf 1 (by decide), og g hg hgf 0 (by decide), og g hg hgf 3 (by decide), og g hg hgf 2 (by decide)⟩) ⟨ff 1 (by decide) (by decide), ff 0 (by decide) (by decide), fw, ff 2 (by decide) (by decide)⟩ ⟨n0, n1, n2, n3⟩
      have sw2 : ∀ T : Nat → Int32, (fun i j => bq (fN T i 1) (fN T i 0) (fN T i 3) (fN T i 2) (fN T j 1) (fN T j 0) (fN T j 3) (fN T j 2)) = bsd T := by
        intro T
        funext i j
        exact (bq_swap _ _ _ _ _ _ _ _).symm
      have e : cnt2 (bsd (cutS S (Pilot.@@N@@.nF S) f 1 (nI p))) (Pilot.@@N@@.nF S + 1) ≤ cnt2 (bsd S) (Pilot.@@N@@.nF S) + 3 := by
        rw [← sw2, ← sw2]; exact this
      omega
