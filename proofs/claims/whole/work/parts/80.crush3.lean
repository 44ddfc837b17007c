/-! a pressing: a foretold number does not matter -/
section Crush3
variable {m : Nat} {g : Int32} {L : List (Nat × Nat)} {K : List c4} {tg tot : Int32}
theorem drw_c {S : Nat → Int32} (hm : 3610 ≤ m) : drw (setS S m g) = setS (drw S) m g := by
  unfold drw
  rw [sN_c hm (by decide), st_comm (m := m) (g := g) (by omega)]
theorem ch_c {S : Nat → Int32} (hm : 3610 ≤ m) : chN (setS S m g) = chN S := by
  unfold chN
  rw [sN_c hm (by decide)]
theorem brT_c {S : Nat → Int32} {f : Nat} (hf : f < 200) (hm : 3610 ≤ m) : brT L K tg tot (setS S m g) f = brT L K tg tot S f := by
  unfold brT
  rw [st_at (k := 5) (by omega), wd_c hf hm]
theorem gos_c {S : Nat → Int32} {f : Nat} (hf : f < 200) (hm : 3610 ≤ m) : gos L K tg tot (setS S m g) f = gos L K tg tot S f := by
  unfold gos
  rw [lng_c hf hm, drw_c hm, brT_c hf hm, ch_c hm, nF_c hm, nR_c hm]
theorem gos_t {S : Nat → Int32} {f : Nat} (h : gos L K tg tot S f = true) : ¬ lngS S f < 2 ∧ nF S < 200 ∧ nR S < 400 := by
  unfold gos at h
  simp only [Bool.and_eq_true, Bool.not_eq_true', decide_eq_true_eq, decide_eq_false_iff_not] at h
  exact ⟨h.1.1.1, h.1.2, h.2⟩
theorem step_ok {S : Nat → Int32} {f : Nat} (hk : SOK S) (hf : f < nF S) (h : gos L K tg tot S f = true) : SOK (brkS (wdS (drw S) f ((drw S) 5) tg tot) L K (drw S) f (wyN S f) (lgN S f)) ∧ nF (brkS (wdS (drw S) f ((drw S) 5) tg tot) L K (drw S) f (wyN S f) (lgN S f)) = nF S + 1 := by
  obtain ⟨h1, h2, h3⟩ := gos_t h
  have hgl : lngS (drw S) f = lngS S f := lng_x _
  have hk1 := sok_drw hk
  refine ⟨?_, by rw [brkS_F (by rw [drw_6]; exact h2), drw_6]⟩
  have := sok_brkS (w := wdS (drw S) f ((drw S) 5) tg tot) (L := L) (K := K) hk1 (f := f) (by rw [drw_6]; exact hf) (by rw [drw_6]; exact h2) (by rw [drw_7]; exact h3) (by rw [hgl]; exact h1)
  rw [show wyN (drw S) f = wyN S f from congrArg Int32.toNatClampNeg (way_x _), show lgN (drw S) f = lgN S f from congrArg Int32.toNatClampNeg hgl] at this
  exact this
theorem step_c {S : Nat → Int32} {f : Nat} (hk : SOK S) (hf : f < nF S) (hm : 3610 ≤ m) (h : gos L K tg tot S f = true) : brkS (wdS (drw (setS S m g)) f ((drw (setS S m g)) 5) tg tot) L K (drw (setS S m g)) f (wyN (setS S m g) f) (lgN (setS S m g) f) = setS (brkS (wdS (drw S) f ((drw S) 5) tg tot) L K (drw S) f (wyN S f) (lgN S f)) m g := by
  obtain ⟨h1, h2, h3⟩ := gos_t h
  have h200 : f < 200 := by omega
  have v1 := (way_w hk hf).1
  rw [drw_c hm, st_at (k := 5) (by omega), wd_c h200 hm, show wyN (setS S m g) f = wyN S f from congrArg Int32.toNatClampNeg (way_c h200 hm), show lgN (setS S m g) f = lgN S f from congrArg Int32.toNatClampNeg (lng_c h200 hm)]
  exact brkS_c (by rw [drw_6]; exact h2) (by rw [drw_7]; exact h3) (by rw [drw_6]; exact hf) v1 hm
theorem crs_c (hm : 3610 ≤ m) : ∀ n f b S, f + n ≤ nF S → SOK S → crs L K tg tot n f b (setS S m g) = (setS (crs L K tg tot n f b S).1 m g, (crs L K tg tot n f b S).2)
  | 0, f, b, S, _, _ => rfl
  | n + 1, f, b, S, hf, hk => by
    have h6 := (sok_6 hk).2.1
    rw [crs, crs, gos_c (by omega) hm]
    by_cases hgo : gos L K tg tot S f = true
    · rw [if_pos hgo, if_pos hgo, step_c hk (by omega) hm hgo]
      obtain ⟨k1, k2⟩ := step_ok hk (by omega) hgo
      exact crs_c hm n (f + 1) (b + 1) _ (by rw [k2]; omega) k1
    · rw [if_neg hgo, if_neg hgo, drw_c hm]
      exact crs_c hm n (f + 1) b _ (by rw [drw_6]; omega) (sok_drw hk)
end Crush3
