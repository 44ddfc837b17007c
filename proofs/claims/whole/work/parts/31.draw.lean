/-! drawing -/
def drN (n : Nat) : Nat := (n * 1103515245 + 12345) % 2147483648
theorem lN_toInt' {n : Nat} (h : n < 2 ^ 63) : (lN n).toInt = (n : Int) := by
  unfold lN
  rw [Int64.toInt_ofNat']
  exact Int.bmod_eq_of_le (by omega) (by omega)
theorem lN_divN {a d : Nat} (ha : a < 2 ^ 63) (h0 : 0 < d) (hd : d < 2 ^ 63) : lN a / lN d = lN (a / d) := by
  apply Int64.toInt_inj.mp
  have hle : a / d ≤ a := Nat.div_le_self _ _
  rw [Int64.toInt_div, lN_toInt' ha, lN_toInt' hd, lN_toInt' (by omega)]
  rw [show (a : Int).tdiv (d : Int) = ((a / d : Nat) : Int) from (Int.ofNat_tdiv a d).symm]
  exact Int.bmod_eq_of_le (by omega) (by omega)
theorem draw_step {n : Nat} (hn : n < 2 ^ 31) : (lN n * 1103515245 + 12345) - (lN n * 1103515245 + 12345) / 2147483648 * 2147483648 = lN (drN n) := by
  have hm : n * 1103515245 < 2 ^ 62 := by omega
  have e : lN n * 1103515245 + 12345 = lN (n * 1103515245 + 12345) := by
    rw [show (1103515245 : Int64) = lN 1103515245 from rfl, show (12345 : Int64) = lN 12345 from rfl, lN_mul, lN_add]
  rw [e, show (2147483648 : Int64) = lN 2147483648 from rfl, lN_divN (by omega) (by decide) (by decide), lN_mul, lN_sub (Nat.div_mul_le_self _ _)]
  congr 1
  unfold drN
  have := Nat.div_add_mod (n * 1103515245 + 12345) 2147483648
  omega
theorem drN_lt (n : Nat) : drN n < 2147483648 := Nat.mod_lt _ (by decide)
section Draw
variable {κ : Ko}
theorem d_draw {dt : AS} {a n : Nat} (hx : gl dt a 13 = lN n) (hn : n < 2 ^ 31) : (f_Sh_drawn κ a dt).1 = nI (drN n / 65536) ∧ (f_Sh_drawn κ a dt).2 = ul dt a 13 (lN (drN n)) := by
  have h1 := drN_lt n
  unfold f_Sh_drawn
  simp only [hx, draw_step hn]
  refine ⟨?_, trivial⟩
  rw [gl_ul, if_pos ⟨rfl, rfl⟩, show (65536 : Int64) = lN 65536 from rfl, lN_divN (by omega) (by decide) (by decide), lN_i]
theorem r_draw {rt : AS} {q s n : Nat} (hs : s < 7) (hx : rw_ rt q s 4 = nI n) (hn : n < 2 ^ 31) : f_R_draw κ q (nI s) rt = some (nI (drN n / 65536), ui rt (q + 14) (3680 * s + 4) (nI (drN n))) := by
  have h1 := drN_lt n
  unfold f_R_draw
  rw [show (3680 : Int32) * nI s + 4 = nI (3680 * s + 4) from ixS s 4, grd_t (vp_in_nI (by omega) (by decide)), grd_t (vp_in_nI (by omega) (by decide)), nI_clamp (by omega), giS, hx, nI_l hn, draw_step hn, show (65536 : Int64) = lN 65536 from rfl, lN_divN (by omega) (by decide) (by decide), lN_i, lN_i]
end Draw
