/-! drawing -/
def drN (n : Nat) : Nat := (n * 1103515245 + 12345) % 2147483648
theorem c_2p31 : (2147483648 : Int64) = lN 2147483648 := by decide
theorem c_65536 : (65536 : Int64) = lN 65536 := by decide
theorem c_mul : (1103515245 : Int64) = lN 1103515245 := by decide
theorem c_add : (12345 : Int64) = lN 12345 := by decide
theorem draw_step {n : Nat} (hn : n < 2 ^ 31) : (lN n * 1103515245 + 12345) - (lN n * 1103515245 + 12345) / 2147483648 * 2147483648 = lN (drN n) := by
  have hm : n * 1103515245 + 12345 < 2 ^ 63 := by omega
  rw [c_2p31, c_mul, c_add, lN_mul, lN_add]
  exact pk_lRem hm (by decide) (by decide)
theorem drN_lt (n : Nat) : drN n < 2147483648 := Nat.mod_lt _ (by decide)
section Draw
variable {κ : Ko}
theorem d_draw {dt : AS} {a n : Nat} (hx : gl dt a 13 = lN n) (hn : n < 2 ^ 31) : (f_Sh_drawn κ a dt).1 = nI (drN n / 65536) ∧ (f_Sh_drawn κ a dt).2 = ul dt a 13 (lN (drN n)) := by
  have h1 := drN_lt n
  unfold f_Sh_drawn
  simp only [hx, draw_step hn]
  refine ⟨?_, trivial⟩
  rw [gl_ul, if_pos ⟨rfl, rfl⟩, c_65536, pk_lDiv (by omega) (by decide) (by decide), lN_i]
theorem r_draw {rt : AS} {q s n : Nat} (hs : s < 7) (hx : rw_ rt q s 4 = nI n) (hn : n < 2 ^ 31) : f_R_draw κ q (nI s) rt = some (nI (drN n / 65536), ui rt (q + 14) (3680 * s + 4) (nI (drN n))) := by
  have h1 := drN_lt n
  unfold f_R_draw
  rw [show (3680 : Int32) * nI s + 4 = nI (3680 * s + 4) from ixS s 4, grd_t (vp_in_nI (by omega) (by decide)), grd_t (vp_in_nI (by omega) (by decide)), nI_clamp (by omega), giS, hx, nI_l hn, draw_step hn, c_65536, pk_lDiv (by omega) (by decide) (by decide), lN_i, lN_i]
end Draw
