/-! how often a ridge was used: kept by a pressing -/
section Uok
variable {S : Nat → Int32} {L : List (Nat × Nat)} {K : List c4} {tg tot : Int32}
theorem uok_x (hU : UOK S) (v : Int32) : UOK (setS S 4 v) := by
  have e : ∀ k, k ≠ 4 → setS S 4 v k = S k := fun k hk => if_neg hk
  intro r hr
  have e7 : nR (setS S 4 v) = nR S := by unfold nR; rw [e 7 (by decide)]
  have e5 : rD (setS S 4 v) = rD S := by unfold rD; rw [e 5 (by decide)]
  rw [e7] at hr
  rw [e5, rN_x]
  exact hU r hr
theorem uok_brk2 (hU : UOK S) {f w : Nat} {p : Int32} (hF : nF S < 200) (hR : nR S < 400) (hf : f < nF S) : UOK (brk2 S f w p) := by
  have e7 : nR (brk2 S f w p) = nR S + 1 := by unfold nR; rw [brk2_7]; exact nI_clamp (by have : nR S < 400 := hR; unfold nR at this ⊢; omega)
  have e5 : rD (brk2 S f w p) = rD S := by unfold rD; rw [brk2_lo (by decide) (by decide) (by decide)]
  intro r hr
  rw [e7] at hr
  rw [e5]
  unfold rN brk2
  rw [cutS_hi hF hf (by omega)]
  by_cases h : r < nR S
  · rw [ridgeS_old h (by decide)]
    exact hU r h
  · obtain rfl : r = nR S := by omega
    rw [ridgeS_new6]
    show (1 : Int32).toNatClampNeg ≤ _
    rw [show (1 : Int32).toNatClampNeg = 1 from rfl]
    omega
theorem uok_brkS (hU : UOK S) {w : Nat → Int64} {f wy g : Nat} (hF : nF S < 200) (hR : nR S < 400) (hf : f < nF S) : UOK (brkS w L K S f wy g) := by
  unfold brkS
  cases thI w L 1 K K.length 0 with
  | none =>
    have e := drw_6 (S := S)
    have e2 := drw_7 (S := S)
    unfold drw at e e2
    exact uok_brk2 (uok_x hU _) (by rw [e]; exact hF) (by rw [e2]; exact hR) (by rw [e]; exact hf)
  | some j => exact uok_brk2 hU hF hR hf
theorem crs_ok : ∀ n f b S, f + n ≤ nF S → SOK S → UOK S → SOK (crs L K tg tot n f b S).1 ∧ UOK (crs L K tg tot n f b S).1 ∧ (crs L K tg tot n f b S).1 2 = S 2 ∧ (crs L K tg tot n f b S).1 5 = S 5
  | 0, f, b, S, _, hk, hU => ⟨hk, hU, rfl, rfl⟩
  | n + 1, f, b, S, hf, hk, hU => by
    have hne : ∀ k, k ≠ 4 → drw S k = S k := fun k z => if_neg z
    rw [crs]
    by_cases hgo : gos L K tg tot S f = true
    · obtain ⟨g1, g2, g3⟩ := gos_t hgo
      obtain ⟨k1, k2⟩ := step_ok hk (by omega) hgo
      rw [if_pos hgo]
      have hU1 : UOK (brkS (wdS (drw S) f ((drw S) 5) tg tot) L K (drw S) f (wyN S f) (lgN S f)) := uok_brkS (S := drw S) (uok_x hU _) (by rw [drw_6]; exact g2) (by rw [drw_7]; exact g3) (by rw [drw_6]; omega)
      obtain ⟨y1, y2, y3, y4⟩ := crs_ok n (f + 1) (b + 1) _ (by rw [k2]; omega) k1 hU1
      exact ⟨y1, y2, by rw [y3, brkS_lo (by decide) (by decide) (by decide) (by decide), hne 2 (by decide)], by rw [y4, brkS_lo (by decide) (by decide) (by decide) (by decide), hne 5 (by decide)]⟩
    · rw [if_neg hgo]
      obtain ⟨y1, y2, y3, y4⟩ := crs_ok n (f + 1) b (drw S) (by rw [drw_6]; omega) (sok_drw hk) (uok_x hU _)
      exact ⟨y1, y2, by rw [y3, hne 2 (by decide)], by rw [y4, hne 5 (by decide)]⟩
end Uok
