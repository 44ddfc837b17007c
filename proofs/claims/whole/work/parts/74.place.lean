/-! where a facet breaks -/
theorem lb_n {y : Int64} {g : Nat} (h1 : 2 ≤ g) (h2 : g ≤ 200) : ∃ p, 1 ≤ p ∧ p ≤ g - 1 ∧ lbnd y 1 (lN (g - 1)) = lN p := by
  have t1 : (1 : Int64).toInt = 1 := by decide
  have t2 : (lN (g - 1)).toInt = (g - 1 : Nat) := lN_toInt (by omega)
  unfold lbnd
  by_cases ha : (1 : Int64) ≤ y
  · rw [if_pos ha]
    by_cases hb : y ≤ lN (g - 1)
    · rw [if_pos hb]
      rw [i64le] at ha hb
      refine ⟨y.toInt.toNat, by omega, by omega, Int64.toInt_inj.mp ?_⟩
      rw [lN_toInt (by omega)]
      omega
    · rw [if_neg hb]
      exact ⟨g - 1, by omega, Nat.le_refl _, rfl⟩
  · rw [if_neg ha]
    exact ⟨1, Nat.le_refl _, by omega, rfl⟩
theorem lb_1000000 (v : Int64) : -1000000 ≤ (lbnd v (-1000000) 1000000).toInt ∧ (lbnd v (-1000000) 1000000).toInt ≤ 1000000 := by
  have t1 : (-1000000 : Int64).toInt = -1000000 := by decide
  have t2 : (1000000 : Int64).toInt = 1000000 := by decide
  unfold lbnd
  by_cases ha : (-1000000 : Int64) ≤ v
  · rw [if_pos ha]
    by_cases hb : v ≤ 1000000
    · rw [if_pos hb]
      rw [i64le] at ha hb
      omega
    · rw [if_neg hb]; omega
  · rw [if_neg ha]; omega
/-- a place told, from 1 on -/
theorem told_place (v : Int64) {g : Nat} (h1 : 2 ≤ g) (h2 : g ≤ 200) : ∃ p, 1 ≤ p ∧ p ≤ g - 1 ∧ ¬ tvD (-1000000) 1000000 v = -2147483648 ∧ ((lmax 1 (lmin ((nI g - 1).toInt64) ((ifl (tvD (-1000000) 1000000 v * ((nI g - 1) + 1)) 1000).toInt64)))).toInt32 = nI p ∧ (lbnd (ldown (lbnd v (-1000000) 1000000 * (nI g).toInt64) 1000) 1 ((nI g).toInt64 - 1)).toInt32 = nI p := by
  obtain ⟨c1, c2⟩ := lb_1000000 v
  have eD : tvD (-1000000) 1000000 v = (lbnd v (-1000000) 1000000).toInt32 := by
    unfold tvD
    show (lmax (-1000000) (lmin 1000000 v)).toInt32 = _
    rw [lbnd_eq (by decide)]
  rw [eD]
  generalize lbnd v (-1000000) 1000000 = c at *
  have t5 : c.toInt32.toInt = c.toInt := by
    rw [Int64.toInt_toInt32]
    rw [Int.bmod_eq_of_le] <;> omega
  have g1 : nI g - 1 + 1 = nI g := by rw [Int32.sub_add_cancel]
  have gm : nI g - 1 = nI (g - 1) := by rw [show (1 : Int32) = nI 1 from rfl, nI_sub (by omega)]
  have gl1 : (nI g).toInt64 - 1 = lN (g - 1) := by
    rw [nI_l (by omega)]
    refine Int64.toInt_inj.mp ?_
    rw [Int64.toInt_sub, lN_toInt (by omega), lN_toInt (by omega), show (1 : Int64).toInt = 1 by decide]
    rw [Int.bmod_eq_of_le] <;> omega
  have hcg : -200000000 ≤ c.toInt * (g : Int) ∧ c.toInt * (g : Int) ≤ 200000000 := by
    have hg0 : (0 : Int) ≤ (g : Int) := by omega
    have hg2 : (g : Int) ≤ 200 := by omega
    have a1 : c.toInt * (g : Int) ≤ 1000000 * (g : Int) := Int.mul_le_mul_of_nonneg_right c2 hg0
    have a2 : -1000000 * (g : Int) ≤ c.toInt * (g : Int) := Int.mul_le_mul_of_nonneg_right c1 hg0
    omega
  have tx : (c.toInt32 * nI g).toInt = c.toInt * (g : Int) := by
    rw [Int32.toInt_mul, t5, nI_toInt (by omega)]
    rw [Int.bmod_eq_of_le] <;> omega
  have tl : (c.toInt32 * nI g).toInt64 = c * (nI g).toInt64 := by
    refine Int64.toInt_inj.mp ?_
    rw [Int32.toInt_toInt64, tx, Int64.toInt_mul, Int32.toInt_toInt64, nI_toInt (by omega)]
    rw [Int.bmod_eq_of_le] <;> omega
  obtain ⟨p, p1, p2, p3⟩ := lb_n (y := ldown (c * (nI g).toInt64) 1000) h1 h2
  refine ⟨p, p1, p2, fun z => ?_, ?_, ?_⟩
  · have := congrArg Int32.toInt z
    rw [t5, show (-2147483648 : Int32).toInt = -2147483648 by decide] at this
    omega
  · rw [g1, ifl_down _ (by rw [tx]; omega), tl, gm, nI_l (n := g - 1) (by omega), lbnd_eq (by rw [i64le, lN_toInt (by omega), show (1 : Int64).toInt = 1 by decide]; omega), p3, lN_i]
  · rw [gl1, p3, lN_i]
/-- a place drawn -/
theorem drawn_place (x : Nat) {g : Nat} (h1 : 2 ≤ g) (h2 : g ≤ 200) : nI (drN x / 65536) - nI (drN x / 65536) / (nI g - 1) * (nI g - 1) + 1 = nI ((drN x / 65536) % (g - 1) + 1) := by
  have := drN_lt x
  have gm : nI g - 1 = nI (g - 1) := by rw [show (1 : Int32) = nI 1 from rfl, nI_sub (by omega)]
  rw [gm, pk_rem (by omega) (by omega) (by omega), nI_1]
theorem place_lb {g p : Nat} (h2 : g ≤ 200) (p1 : 1 ≤ p) (p2 : p ≤ g - 1) : (lbnd (nI p).toInt64 1 ((nI g).toInt64 - 1)).toInt32 = nI p := by
  have gl1 : (nI g).toInt64 - 1 = lN (g - 1) := by
    rw [nI_l (by omega)]
    refine Int64.toInt_inj.mp ?_
    rw [Int64.toInt_sub, lN_toInt (by omega), lN_toInt (by omega), show (1 : Int64).toInt = 1 by decide]
    rw [Int.bmod_eq_of_le] <;> omega
  rw [gl1, nI_l (by omega)]
  unfold lbnd
  rw [if_pos (by rw [i64le, lN_toInt (by omega), show (1 : Int64).toInt = 1 by decide]; omega), if_pos (by rw [i64le, lN_toInt (by omega), lN_toInt (by omega)]; omega), lN_i]
