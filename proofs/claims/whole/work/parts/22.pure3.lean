section Pure3
variable {κ : Ko} {dt rt : AS} {a b q s : Nat}
/-- a ridge that the other sheet has too -/
theorem q_like (h : SR κ dt a rt q s) (h' : SR κ dt b rt q 6) {r : Nat} (hr : r < nR (rw_ rt q s)) (x3 : Int32) (k : Nat → Int32 → Int32 → Int32 → Int32 → AS → Option (Int32 × AS)) : ∃ v, (v = 0 ∨ v = 1) ∧ f_Sh_hasRidgeLike κ b a (nI r) dt = some v ∧ L_R_alikeBy_42 κ k FU q (nI s) x3 (nI r) 0 0 rt = k q (nI s) x3 (nI r) v rt := by
  have hn := h.nr.2
  have hn' := h'.nr.2
  have e6 : (6 : Int32) = nI 6 := rfl
  unfold f_Sh_hasRidgeLike
  have key := lk2 (fun d (_ : Unit) i => L_Sh_hasRidgeLike_2 κ dt d b a (nI r) i) (fun d _ i => L_R_alikeBy_42 κ k (d + 1) q (nI s) x3 (nI r) 0 i rt) (fun x y => ∃ v, (v = 0 ∨ v = 1) ∧ x = some v ∧ y = k q (nI s) x3 (nI r) v rt) (fun _ _ => True) (n := nR (rw_ rt q 6)) ?_ ?_ (nR (rw_ rt q 6)) 0 99999 () (by omega) (by omega) trivial
  · obtain ⟨v, v1, v2, v3⟩ := key
    refine ⟨v, v1, ?_, v3⟩
    have : ∀ d i w, i ≤ nR (rw_ rt q 6) → L_Sh_hasRidgeLike_2 κ dt d b a (nI r) (nI i) = some w → L_Sh_hasRidgeLike_2 κ dt (d + 1) b a (nI r) (nI i) = some w := by
      intro d
      induction d with
      | zero => intro i w _ hw; exact nn_some hw
      | succ d ih =>
        intro i w hi hw
        rw [L_Sh_hasRidgeLike_2] at hw ⊢
        by_cases hc : i < nR (rw_ rt q 6)
        · rw [d_nr h', if_neg (nI_ge hc (by omega))] at hw ⊢
          simp only [dr0 h' hc, dr1 h' hc, dr2 h' hc, dr3 h' hc, dr0 h hr, dr1 h hr, dr2 h hr, dr3 h hr, bnd_t, jn_e, nI_1] at hw ⊢
          have e := ih (i + 1) w (by omega)
          split at hw
          · rw [if_pos ‹_›]
            split at hw
            · rw [if_pos ‹_›]
              split at hw
              · rw [if_pos ‹_›]
                split at hw
                · rw [if_pos ‹_›]; exact hw
                · rw [if_neg ‹_›]; exact e hw
              · rw [if_neg ‹_›]; exact e hw
            · rw [if_neg ‹_›]; exact e hw
          · rw [if_neg ‹_›]; exact e hw
        · rw [d_nr h', if_pos (nI_le (by omega) (by omega))] at hw ⊢
          exact hw
    exact this 99999 0 v (by omega) v2
  · intro d t _
    rw [L_Sh_hasRidgeLike_2, L_R_alikeBy_42, d_nr h', if_pos (nI_le (Nat.le_refl _) (by omega)), e6, rs7 h', bnd_t, h'.nr.1, if_pos (nI_le (Nat.le_refl _) (by omega))]
    exact ⟨0, Or.inl rfl, rfl, rfl⟩
  · intro d t i hi _ ih
    have one : L_R_alikeBy_42 κ k (d + 1) q (nI s) x3 (nI r) 1 (nI (i + 1)) rt = k q (nI s) x3 (nI r) 1 rt := by
      rw [L_R_alikeBy_42, e6, rs7 h', bnd_t, if_neg (show ¬ (1 : Int32) = 0 by decide), ite_self]
    rw [L_Sh_hasRidgeLike_2, L_R_alikeBy_42, d_nr h', if_neg (nI_ge hi (by omega)), e6, rs7 h', bnd_t, h'.nr.1, if_neg (nI_ge hi (by omega))]
    simp only [dr0 h' hi, dr1 h' hi, dr2 h' hi, dr3 h' hi, rr0 h' hi, rr1 h' hi, rr2 h' hi, rr3 h' hi, dr0 h hr, dr1 h hr, dr2 h hr, dr3 h hr, rr0 h hr, rr1 h hr, rr2 h hr, rr3 h hr, bnd_t, jn_e, nI_1, if_true, one]
    have e := ih () trivial
    by_cases c0 : rw_ rt q 6 (810 + 7 * i + 0) = rw_ rt q s (810 + 7 * r + 0)
    · rw [if_pos c0, if_pos c0.symm]
      by_cases c1 : rw_ rt q 6 (810 + 7 * i + 1) = rw_ rt q s (810 + 7 * r + 1)
      · rw [if_pos c1, if_pos c1.symm]
        by_cases c2 : rw_ rt q 6 (810 + 7 * i + 2) = rw_ rt q s (810 + 7 * r + 2)
        · rw [if_pos c2, if_pos c2.symm]
          by_cases c3 : rw_ rt q 6 (810 + 7 * i + 3) = rw_ rt q s (810 + 7 * r + 3)
          · rw [if_pos c3, if_pos c3.symm]; exact ⟨1, Or.inr rfl, rfl, rfl⟩
          · rw [if_neg c3, if_neg (fun z => c3 z.symm)]; exact e
        · rw [if_neg c2, if_neg (fun z => c2 z.symm)]; exact e
      · rw [if_neg c1, if_neg (fun z => c1 z.symm)]; exact e
    · rw [if_neg c0, if_neg (fun z => c0 z.symm)]; exact e
theorem q_alikes (h : SR κ dt a rt q s) (h' : SR κ dt b rt q 6) : ∃ v, f_Sh_ridgesAlsoOf κ a b dt = some v ∧ L_R_alikeBy_24 κ FU q (nI s) 0 0 rt = some (v, rt) := by
  have hn := h.nr.2
  unfold f_Sh_ridgesAlsoOf
  refine lk2 (fun d t i => L_Sh_ridgesAlsoOf_4 κ dt d a b t i) (fun d t i => L_R_alikeBy_24 κ d q (nI s) t i rt) (fun x y => ∃ v, x = some v ∧ y = some (v, rt)) (fun _ _ => True) (n := nR (rw_ rt q s)) ?_ ?_ ((nR (rw_ rt q s)) - 0) 0 FU (0) (by omega) (FUn (by omega)) trivial
  · intro d t _
    rw [L_Sh_ridgesAlsoOf_4, L_R_alikeBy_24, d_nr h, if_pos (nI_le (Nat.le_refl _) (by omega)), rs7 h, bnd_t, h.nr.1, if_pos (nI_le (Nat.le_refl _) (by omega))]
    exact ⟨_, rfl, rfl⟩
  · intro d t i hi _ ih
    rw [L_Sh_ridgesAlsoOf_4, L_R_alikeBy_24, d_nr h, if_neg (nI_ge hi (by omega)), rs7 h, bnd_t, h.nr.1, if_neg (nI_ge hi (by omega))]
    obtain ⟨v, v1, v2, v3⟩ := q_like h h' hi t (fun (v31 : Nat) (v33 : Int32) (v34 : Int32) (v35 : Int32) (v36 : Int32) (s37 : AS) => L_R_alikeBy_24 κ d v31 v33 (if v36 = 0 then v34 + 0 else v34 + 1 : Int32) (v35 + 1) s37)
    rw [v2, v3, bnd_t, nI_1]
    exact ih _ trivial
/-- the greatest long side -/
theorem SR.longN (h : SR κ dt a rt q s) {f : Nat} (hf : f < nF (rw_ rt q s)) : ∃ n, 1 ≤ n ∧ n ≤ 200 ∧ imax (rw_ rt q s (10 + 4 * f + 2)) (rw_ rt q s (10 + 4 * f + 3)) = nI n := by
  obtain ⟨-, -, ⟨w, hw, w1, w2⟩, ⟨g, hg, g1, g2⟩⟩ := h.facet hf
  rw [hw, hg]
  unfold imax
  split
  · exact ⟨g, g1, g2, rfl⟩
  · exact ⟨w, w1, w2, rfl⟩
theorem q_fine (h : SR κ dt a rt q s) (x : Int32) (hx : 0 ≤ x) : ∃ g, f_Sh_greatestLong κ a dt = some g ∧ f_R_isFine κ q (nI s) x rt = some (if g ≤ x then 1 else 0) := by
  have hn := h.nf.2.1
  have hD : ∃ g, g ≤ 200 ∧ f_Sh_greatestLong κ a dt = some (nI g) ∧ (∀ f, f < nF (rw_ rt q s) → imax (rw_ rt q s (10 + 4 * f + 2)) (rw_ rt q s (10 + 4 * f + 3)) ≤ nI g) ∧ (g = 0 ∨ ∃ f, f < nF (rw_ rt q s) ∧ imax (rw_ rt q s (10 + 4 * f + 2)) (rw_ rt q s (10 + 4 * f + 3)) = nI g) := by
    unfold f_Sh_greatestLong
    refine lk1 (fun d t i => L_Sh_greatestLong_4 κ dt d a t i) (fun z => ∃ g, g ≤ 200 ∧ z = some (nI g) ∧ (∀ f, f < nF (rw_ rt q s) → imax (rw_ rt q s (10 + 4 * f + 2)) (rw_ rt q s (10 + 4 * f + 3)) ≤ nI g) ∧ (g = 0 ∨ ∃ f, f < nF (rw_ rt q s) ∧ imax (rw_ rt q s (10 + 4 * f + 2)) (rw_ rt q s (10 + 4 * f + 3)) = nI g)) (fun i t => ∃ g, g ≤ 200 ∧ t = nI g ∧ (∀ f, f < i → imax (rw_ rt q s (10 + 4 * f + 2)) (rw_ rt q s (10 + 4 * f + 3)) ≤ nI g) ∧ (g = 0 ∨ ∃ f, f < nF (rw_ rt q s) ∧ imax (rw_ rt q s (10 + 4 * f + 2)) (rw_ rt q s (10 + 4 * f + 3)) = nI g)) (n := nF (rw_ rt q s)) ?_ ?_ (nF (rw_ rt q s)) 0 FU 0 (by omega) (FUn (by omega)) ⟨0, by omega, rfl, fun f hf => absurd hf (by omega), Or.inl rfl⟩
    · rintro d t ⟨g, g0, rfl, g1, g2⟩
      rw [L_Sh_greatestLong_4, d_nf h, if_pos (nI_le (Nat.le_refl _) (by omega))]
      exact ⟨g, g0, rfl, g1, g2⟩
    · rintro d t i hi ⟨g, g0, rfl, g1, g2⟩ ih
      obtain ⟨n, n1, n2, n3⟩ := h.longN hi
      rw [L_Sh_greatestLong_4, d_nf h, if_neg (nI_ge hi (by omega)), d_long h hi, bnd_t, nI_1, n3]
      by_cases hc : g < n
      · refine ih _ ⟨n, n2, by unfold imax; rw [if_pos (nI_lt hc (by omega))], fun f hf => ?_, Or.inr ⟨i, hi, n3⟩⟩
        by_cases e : f = i
        · rw [e, n3]; exact Int32.le_refl _
        · exact Int32.le_trans (g1 f (by omega)) (nI_le (by omega) (by omega))
      · refine ih _ ⟨g, g0, by unfold imax; rw [if_neg (nI_nlt (by omega) (by omega))], fun f hf => ?_, g2⟩
        by_cases e : f = i
        · rw [e, n3]; exact nI_le (by omega) (by omega)
        · exact g1 f (by omega)
  obtain ⟨g, g0, g1, g2, g3⟩ := hD
  refine ⟨nI g, g1, ?_⟩
  unfold f_R_isFine
  refine lk1 (fun d (_ : Unit) i => L_R_isFine_2 κ rt d q (nI s) x i) (fun z => z = some (if nI g ≤ x then 1 else 0)) (fun i _ => ∀ f, f < i → imax (rw_ rt q s (10 + 4 * f + 2)) (rw_ rt q s (10 + 4 * f + 3)) ≤ x) (n := nF (rw_ rt q s)) ?_ ?_ (nF (rw_ rt q s)) 0 FU () (by omega) (FUn (by omega)) (fun f hf => absurd hf (by omega))
  · intro d _ hI
    rw [L_R_isFine_2, rs6 h, bnd_t, h.nf.1, if_pos (nI_le (Nat.le_refl _) (by omega)), if_pos]
    rcases g3 with rfl | ⟨f, f1, f2⟩
    · exact hx
    · rw [← f2]; exact hI f f1
  · intro d _ i hi hI ih
    rw [L_R_isFine_2, rs6 h, bnd_t, h.nf.1, if_neg (nI_ge hi (by omega)), r_long h hi, bnd_t, nI_1]
    by_cases hc : imax (rw_ rt q s (10 + 4 * i + 2)) (rw_ rt q s (10 + 4 * i + 3)) ≤ x
    · rw [if_pos hc]
      refine ih () (fun f hf => ?_)
      by_cases e : f = i
      · rw [e]; exact hc
      · exact hI f (by omega)
    · rw [if_neg hc, if_neg (fun z => hc (Int32.le_trans (g2 i hi) z))]
/-! beside one another -/
theorem nI_d0 {x y : Nat} (hx : x < 2 ^ 30) (hy : y < 2 ^ 30) : (nI x - nI y).toInt = (x : Int) - y := by
  rw [Int32.toInt_sub, nI_toInt (by omega), nI_toInt (by omega)]
  exact Int.bmod_eq_of_le (by omega) (by omega)
theorem d_bsd (h : SR κ dt a rt q s) {f g : Nat} (hf : f < nF (rw_ rt q s)) (hg : g < nF (rw_ rt q s)) : f_Sh_areBeside κ a (nI f) (nI g) dt = some (if bsd (rw_ rt q s) f g = true then 1 else 0) := by
  have f0 := h.fn hf 0 (by decide)
  have f1 := h.fn hf 1 (by decide)
  have f2 := h.fn hf 2 (by decide)
  have f3 := h.fn hf 3 (by decide)
  have g0 := h.fn hg 0 (by decide)
  have g1 := h.fn hg 1 (by decide)
  have g2 := h.fn hg 2 (by decide)
  have g3 := h.fn hg 3 (by decide)
  unfold f_Sh_areBeside
  simp only [df0 h hf, df1 h hf, df2 h hf, df3 h hf, df0 h hg, df1 h hg, df2 h hg, df3 h hg, bnd_t, jn_e]
  rw [f0.1, f1.1, f2.1, f3.1, g0.1, g1.1, g2.1, g3.1]
  simp only [nI_add, bsd, decide_eq_true_eq]
  generalize fN (rw_ rt q s) f 0 = x1 at *
  generalize fN (rw_ rt q s) f 1 = y1 at *
  generalize fN (rw_ rt q s) f 2 = w1 at *
  generalize fN (rw_ rt q s) f 3 = v1 at *
  generalize fN (rw_ rt q s) g 0 = x2 at *
  generalize fN (rw_ rt q s) g 1 = y2 at *
  generalize fN (rw_ rt q s) g 2 = w2 at *
  generalize fN (rw_ rt q s) g 3 = v2 at *
  have f0 := f0.2
  have f1 := f1.2
  have f2 := f2.2
  have f3 := f3.2
  have g0 := g0.2
  have g1 := g1.2
  have g2 := g2.2
  have g3 := g3.2
  simp only [nI_eq (show x1 + w1 < 2 ^ 31 by omega) (show x2 < 2 ^ 31 by omega), nI_eq (show x2 + w2 < 2 ^ 31 by omega) (show x1 < 2 ^ 31 by omega), nI_eq (show y1 + v1 < 2 ^ 31 by omega) (show y2 < 2 ^ 31 by omega), nI_eq (show y2 + v2 < 2 ^ 31 by omega) (show y1 < 2 ^ 31 by omega), nI_leI (show y2 + v2 < 2 ^ 31 by omega) (show y1 < 2 ^ 31 by omega), nI_leI (show y1 + v1 < 2 ^ 31 by omega) (show y2 < 2 ^ 31 by omega), nI_leI (show x2 + w2 < 2 ^ 31 by omega) (show x1 < 2 ^ 31 by omega), nI_leI (show x1 + w1 < 2 ^ 31 by omega) (show x2 < 2 ^ 31 by omega), show ¬ (1 : Int32) = 0 by decide, if_true, if_false]
  repeat' split
  all_goals first | rfl | (exfalso; omega)
theorem r_bsd (h : SR κ dt a rt q s) {f g : Nat} (hf : f < nF (rw_ rt q s)) (hg : g < nF (rw_ rt q s)) : f_R_areBeside κ q (nI s) (nI f) (nI g) rt = some (if bsd (rw_ rt q s) f g = true then 1 else 0) := by
  have f0 := h.fn hf 0 (by decide)
  have f1 := h.fn hf 1 (by decide)
  have f2 := h.fn hf 2 (by decide)
  have f3 := h.fn hf 3 (by decide)
  have g0 := h.fn hg 0 (by decide)
  have g1 := h.fn hg 1 (by decide)
  have g2 := h.fn hg 2 (by decide)
  have g3 := h.fn hg 3 (by decide)
  have wf2 := (h.facet hf).2.2.1.cl (by decide)
  have wf3 := (h.facet hf).2.2.2.cl (by decide)
  have wg2 := (h.facet hg).2.2.1.cl (by decide)
  have wg3 := (h.facet hg).2.2.2.cl (by decide)
  have k2 : 1 ≤ fN (rw_ rt q s) f 2 := wf2.2.1
  have k3 : 1 ≤ fN (rw_ rt q s) f 3 := wf3.2.1
  have k2' : 1 ≤ fN (rw_ rt q s) g 2 := wg2.2.1
  have k3' : 1 ≤ fN (rw_ rt q s) g 3 := wg3.2.1
  clear wf2 wf3 wg2 wg3
  unfold f_R_areBeside
  simp only [rf0 h hf, rf1 h hf, rf2 h hf, rf3 h hf, rf0 h hg, rf1 h hg, rf2 h hg, rf3 h hg, bnd_t, jn_e]
  rw [f0.1, f1.1, f2.1, f3.1, g0.1, g1.1, g2.1, g3.1]
  have f0 := f0.2
  have f1 := f1.2
  have f2 := f2.2
  have f3 := f3.2
  have g0 := g0.2
  have g1 := g1.2
  have g2 := g2.2
  have g3 := g3.2
  simp only [bsd, decide_eq_true_eq]
  generalize fN (rw_ rt q s) f 0 = x1 at *
  generalize fN (rw_ rt q s) f 1 = y1 at *
  generalize fN (rw_ rt q s) f 2 = w1 at *
  generalize fN (rw_ rt q s) f 3 = v1 at *
  generalize fN (rw_ rt q s) g 0 = x2 at *
  generalize fN (rw_ rt q s) g 1 = y2 at *
  generalize fN (rw_ rt q s) g 2 = w2 at *
  generalize fN (rw_ rt q s) g 3 = v2 at *
  have com : ∀ p z o y : Nat, p ≤ 200 → z ≤ 200 → o ≤ 200 → y ≤ 200 → (f_R_common κ (nI p) (nI z) (nI o) (nI y) rt).toInt = (min (p + z) (o + y) : Int) - (max p o : Int) := by
    intro p z o y h1 h2 h3 h4
    unfold f_R_common
    simp only [nI_add, nI_leI (show o + y < 2 ^ 31 by omega) (show p + z < 2 ^ 31 by omega), nI_leI (show p < 2 ^ 31 by omega) (show o < 2 ^ 31 by omega)]
    split <;> split <;> rw [nI_d0 (by omega) (by omega)] <;> omega
  have cx := com x1 w1 x2 w2 f0 f2 g0 g2
  have cy := com y1 v1 y2 v2 f1 f3 g1 g3
  generalize f_R_common κ (nI x1) (nI w1) (nI x2) (nI w2) rt = X at *
  generalize f_R_common κ (nI y1) (nI v1) (nI y2) (nI v2) rt = Y at *
  have zx : X = 0 ↔ X.toInt = 0 := ⟨fun e => by rw [e]; rfl, fun e => Int32.toInt_inj.mp e⟩
  have zy : Y = 0 ↔ Y.toInt = 0 := ⟨fun e => by rw [e]; rfl, fun e => Int32.toInt_inj.mp e⟩
  have lx : X ≤ 0 ↔ X.toInt ≤ 0 := i32le
  have ly' : 0 < Y ↔ 0 < Y.toInt := i32lt
  simp only [zx, zy, lx, ly']
  repeat' split
  all_goals first | rfl | (exfalso; omega)
end Pure3
