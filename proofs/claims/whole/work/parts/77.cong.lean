/-! rows that differ at one foretold number -/
section Cong
variable {S : Nat → Int32} {m : Nat} {g : Int32}
theorem st_comm {j : Nat} {v : Int32} (h : j ≠ m) : setS (setS S m g) j v = setS (setS S j v) m g := by
  funext k
  unfold setS
  by_cases h1 : k = j
  · rw [if_pos h1, if_neg (by omega), if_pos h1]
  · rw [if_neg h1]
    by_cases h2 : k = m
    · rw [if_pos h2, if_pos h2]
    · rw [if_neg h2, if_neg h2, if_neg h1]
theorem st_at {k : Nat} (h : k ≠ m) : setS S m g k = S k := if_neg h
theorem come_c {n : Nat} (hn : n < 200) (hm : 3610 ≤ m) (x y w h : Int32) : comeS (setS S m g) n x y w h = setS (comeS S n x y w h) m g := by
  unfold comeS
  rw [st_comm (m := m) (g := g) (by omega), st_comm (m := m) (g := g) (by omega), st_comm (m := m) (g := g) (by omega), st_comm (m := m) (g := g) (by omega), st_comm (m := m) (g := g) (by omega)]
theorem ridge_c {n : Nat} (hn : n < 400) (hm : 3610 ≤ m) (w p f t k : Int32) : ridgeS (setS S m g) n w p f t k = setS (ridgeS S n w p f t k) m g := by
  unfold ridgeS
  rw [st_at (k := 5) (by omega), st_comm (m := m) (g := g) (by omega), st_comm (m := m) (g := g) (by omega), st_comm (m := m) (g := g) (by omega), st_comm (m := m) (g := g) (by omega), st_comm (m := m) (g := g) (by omega), st_comm (m := m) (g := g) (by omega), st_comm (m := m) (g := g) (by omega), st_comm (m := m) (g := g) (by omega)]
theorem cut_c {n f w : Nat} (hn : n < 200) (hf : f < n) (hm : 3610 ≤ m) (p : Int32) : cutS (setS S m g) n f w p = setS (cutS S n f w p) m g := by
  unfold cutS
  rw [st_at (k := 10 + 4 * f) (by omega), st_at (k := 10 + 4 * f + 1) (by omega), st_at (k := 10 + 4 * f + 2) (by omega), st_at (k := 10 + 4 * f + 3) (by omega), st_comm (m := m) (g := g) (j := 10 + 4 * f + 2) (by omega), st_comm (m := m) (g := g) (j := 10 + 4 * f + 3) (by omega), come_c hn hm, come_c hn hm]
  split <;> rfl
theorem nF_c (hm : 3610 ≤ m) : nF (setS S m g) = nF S := by unfold nF; rw [st_at (by omega)]
theorem nR_c (hm : 3610 ≤ m) : nR (setS S m g) = nR S := by unfold nR; rw [st_at (by omega)]
theorem sN_c (hm : 3610 ≤ m) {k : Nat} (hk : k < 3610) : sN (setS S m g) k = sN S k := by unfold sN; rw [st_at (by omega)]
theorem way_c {f : Nat} (hf : f < 200) (hm : 3610 ≤ m) : wayS (setS S m g) f = wayS S f := by unfold wayS; rw [st_at (by omega), st_at (by omega)]
theorem lng_c {f : Nat} (hf : f < 200) (hm : 3610 ≤ m) : lngS (setS S m g) f = lngS S f := by unfold lngS; rw [st_at (by omega), st_at (by omega)]
theorem sht_c {f : Nat} (hf : f < 200) (hm : 3610 ≤ m) : shtS (setS S m g) f = shtS S f := by unfold shtS; rw [st_at (by omega), st_at (by omega)]
theorem brk2_c {f w : Nat} (hF : nF S < 200) (hR : nR S < 400) (hf : f < nF S) (hw : w < 2) (hm : 3610 ≤ m) (p : Int32) : brk2 (setS S m g) f w p = setS (brk2 S f w p) m g := by
  unfold brk2
  rw [nF_c hm, nR_c hm, sht_c (by omega) hm, st_at (k := 10 + 4 * f + w) (by omega), st_at (k := 10 + 4 * f + (1 - w)) (by omega), ridge_c hR hm, cut_c hF hf hm]
theorem brkS_c {L : List (Nat × Nat)} {K : List c4} {w : Nat → Int64} {f wy gg : Nat} (hF : nF S < 200) (hR : nR S < 400) (hf : f < nF S) (hw : wy < 2) (hm : 3610 ≤ m) : brkS w L K (setS S m g) f wy gg = setS (brkS w L K S f wy gg) m g := by
  unfold brkS
  cases thI w L 1 K K.length 0 with
  | none =>
    show brk2 (setS (setS S m g) 4 _) f wy _ = setS (brk2 (setS S 4 _) f wy _) m g
    have e6 : nF (setS S 4 (nI (drN (sN S 4)))) = nF S := by unfold nF; rfl
    have e7 : nR (setS S 4 (nI (drN (sN S 4)))) = nR S := by unfold nR; rfl
    rw [sN_c hm (by decide), st_comm (m := m) (g := g) (by omega), brk2_c (by rw [e6]; exact hF) (by rw [e7]; exact hR) (by rw [e6]; exact hf) hw hm]
  | some j => exact brk2_c hF hR hf hw hm _
theorem wd_c {f : Nat} (hf : f < 200) (hm : 3610 ≤ m) (rd tg tot : Int32) : wdS (setS S m g) f rd tg tot = wdS S f rd tg tot := by
  funext v
  unfold wdS edS
  rw [lng_c hf hm, sht_c hf hm, way_c hf hm, st_at (k := 10 + 4 * f + 0) (by omega), st_at (k := 10 + 4 * f + 1) (by omega), st_at (k := 10 + 4 * f + 2) (by omega), st_at (k := 10 + 4 * f + 3) (by omega), st_at (k := 0) (by omega), st_at (k := 1) (by omega)]
/-- what a break keeps -/
theorem brk2_lo {f w k : Nat} {p : Int32} (hk : k < 10) (h6 : k ≠ 6) (h7 : k ≠ 7) : brk2 S f w p k = S k := by
  unfold brk2
  rw [cutS_lo hk h6, ridgeS_lo (by omega) h7]
theorem brk2_6 {f w : Nat} {p : Int32} : brk2 S f w p 6 = nI (nF S + 1) := cutS_6
theorem brk2_7 {f w : Nat} {p : Int32} : brk2 S f w p 7 = nI (nR S + 1) := by
  unfold brk2
  rw [cutS_lo (by decide) (by decide), ridgeS_7]
theorem brk2_old {f w u j : Nat} {p : Int32} (hF : nF S < 200) (hu : u < nF S) (huf : u ≠ f) (hj : j < 4) : brk2 S f w p (10 + 4 * u + j) = S (10 + 4 * u + j) := by
  unfold brk2
  rw [cutS_old hu huf hj, ridgeS_fac (by omega) hj]
theorem brk2_hi {f w k : Nat} {p : Int32} (hF : nF S < 200) (hR : nR S < 400) (hf : f < nF S) (hk : 3610 ≤ k) : brk2 S f w p k = S k := by
  unfold brk2
  rw [cutS_hi hF hf (by omega), ridgeS_hi hR hk]
end Cong
