/-! a pressing: what is foretold on the way is what was expected -/
section Crush4
variable {L : List (Nat × Nat)} {K : List c4} {tg tot : Int32}
theorem brkS_lo {S : Nat → Int32} {w : Nat → Int64} {f wy g k : Nat} (hk : k < 10) (h4 : k ≠ 4) (h6 : k ≠ 6) (h7 : k ≠ 7) : brkS w L K S f wy g k = S k := by
  unfold brkS
  cases thI w L 1 K K.length 0 with
  | none => exact (brk2_lo hk h6 h7).trans (if_neg h4)
  | some j => exact brk2_lo hk h6 h7
theorem brkS_old {S : Nat → Int32} {w : Nat → Int64} {f wy g u j : Nat} (hF : nF S < 200) (hu : u < nF S) (huf : u ≠ f) (hj : j < 4) : brkS w L K S f wy g (10 + 4 * u + j) = S (10 + 4 * u + j) := by
  unfold brkS
  cases thI w L 1 K K.length 0 with
  | none =>
    have e := drw_6 (S := S)
    unfold drw at e
    exact (brk2_old (S := setS S 4 (nI (drN (sN S 4)))) (by rw [e]; exact hF) (by rw [e]; exact hu) huf hj).trans (if_neg (by omega))
  | some i => exact brk2_old hF hu huf hj
theorem wd_ag {S S0 : Nat → Int32} {f : Nat} (h : ∀ j, j < 4 → S (10 + 4 * f + j) = S0 (10 + 4 * f + j)) (h0 : S 0 = S0 0) (h1 : S 1 = S0 1) (rd : Int32) : wdS S f rd tg tot = wdS S0 f rd tg tot ∧ lngS S f = lngS S0 f ∧ shtS S f = shtS S0 f := by
  have a0 := h 0 (by decide)
  have a1 := h 1 (by decide)
  have a2 := h 2 (by decide)
  have a3 := h 3 (by decide)
  have el : lngS S f = lngS S0 f := by unfold lngS; rw [a2, a3]
  have es : shtS S f = shtS S0 f := by unfold shtS; rw [a2, a3]
  refine ⟨?_, el, es⟩
  funext v
  unfold wdS edS wayS
  rw [el, es, a0, a1, a2, a3, h0, h1]
theorem fts_exs {S0 : Nat → Int32} {rd : Int32} {th : Nat} : ∀ n f t S, f + n = th → th ≤ nF S → SOK S → S 5 = rd → S 0 = S0 0 → S 1 = S0 1 → (∀ u, f ≤ u → u < th → ∀ j, j < 4 → S (10 + 4 * u + j) = S0 (10 + 4 * u + j)) → fts L K tg tot n f t S = exs S0 L K rd tg tot true n f t
  | 0, f, t, S, _, _, _, _, _, _, _ => rfl
  | n + 1, f, t, S, hf, hth, hk, h5, h0, h1, hA => by
    have h6 := (sok_6 hk).2.1
    have hne : ∀ k, k ≠ 4 → drw S k = S k := fun k z => if_neg z
    obtain ⟨w1, w2, w3⟩ := wd_ag (tg := tg) (tot := tot) (S := drw S) (S0 := S0) (f := f) (fun j hj => by rw [hne _ (by omega)]; exact hA f (Nat.le_refl _) (by omega) j hj) ((hne 0 (by decide)).trans h0) ((hne 1 (by decide)).trans h1) rd
    obtain ⟨-, w4, w5⟩ := wd_ag (tg := tg) (tot := tot) (S := S) (S0 := S0) (f := f) (fun j hj => hA f (Nat.le_refl _) (by omega) j hj) h0 h1 rd
    have eb : brT L K tg tot (drw S) f = brk (wdS S0 f rd tg tot) L K := by
      unfold brT
      rw [hne 5 (by decide), h5, w1]
    have et : t + (if lngS S f < 2 then 0 else brT L K tg tot (drw S) f * shtS S f) = exv S0 L K rd tg tot true f t := by
      unfold exv
      rw [w4, w5, eb]
      by_cases hg : lngS S0 f < 2
      · rw [if_pos hg, if_pos hg, Int32.add_zero]
      · rw [if_neg hg, if_neg hg, if_pos rfl]
    rw [fts, exs, et]
    by_cases hgo : gos L K tg tot S f = true
    · obtain ⟨g1, g2, g3⟩ := gos_t hgo
      obtain ⟨k1, k2⟩ := step_ok hk (by omega) hgo
      rw [if_pos hgo]
      exact fts_exs (S0 := S0) (rd := rd) (th := th) n (f + 1) _ _ (by omega) (by rw [k2]; omega) k1 (by rw [brkS_lo (by decide) (by decide) (by decide) (by decide), hne 5 (by decide)]; exact h5) (by rw [brkS_lo (by decide) (by decide) (by decide) (by decide), hne 0 (by decide)]; exact h0) (by rw [brkS_lo (by decide) (by decide) (by decide) (by decide), hne 1 (by decide)]; exact h1) (fun u hu1 hu2 j hj => by rw [brkS_old (by rw [drw_6]; exact g2) (by rw [drw_6]; omega) (by omega) hj, hne _ (by omega)]; exact hA u (by omega) hu2 j hj)
    · rw [if_neg hgo]
      exact fts_exs (S0 := S0) (rd := rd) (th := th) n (f + 1) _ _ (by omega) (by rw [drw_6]; exact hth) (sok_drw hk) ((hne 5 (by decide)).trans h5) ((hne 0 (by decide)).trans h0) ((hne 1 (by decide)).trans h1) (fun u hu1 hu2 j hj => by rw [hne _ (by omega)]; exact hA u (by omega) hu2 j hj)
end Crush4
