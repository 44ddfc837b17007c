/-! divided downwards, int and long -/
theorem tdv (z : Int) : (0 ≤ z → z.tdiv 1000 = z / 1000) ∧ (z < 0 → z.tdiv 1000 = -((-z) / 1000)) := by
  refine ⟨fun h => Int.tdiv_eq_ediv_of_nonneg h, fun h => ?_⟩
  have e : z.tdiv 1000 = -((-z).tdiv 1000) := by rw [Int.neg_tdiv, Int.neg_neg]
  rw [e, Int.tdiv_eq_ediv_of_nonneg (by omega)]
theorem xor_sign (x : Int32) : 0 ≤ x ^^^ (1000 : Int32) ↔ 0 ≤ x.toInt := by
  have e : (x ^^^ (1000 : Int32)).toBitVec.msb = x.toBitVec.msb := by
    rw [Int32.toBitVec_xor, BitVec.msb_xor, show (1000 : Int32).toBitVec.msb = false by decide, Bool.xor_false]
  rw [BitVec.msb_eq_toInt, BitVec.msb_eq_toInt] at e
  rw [i32le]
  show (0 : Int) ≤ (x ^^^ (1000 : Int32)).toBitVec.toInt ↔ 0 ≤ x.toBitVec.toInt
  have := decide_eq_decide.mp e
  omega
theorem ifl_down (x : Int32) (h : -2000000000 ≤ x.toInt ∧ x.toInt ≤ 2000000000) : (ifl x 1000).toInt64 = ldown x.toInt64 1000 := by
  have hz := tdv x.toInt
  have A : (x / 1000).toInt = x.toInt.tdiv 1000 := by
    rw [Int32.toInt_div]
    show (x.toInt.tdiv 1000).bmod (2 ^ 32) = _
    rw [Int.bmod_eq_of_le] <;> omega
  have B : (x.toInt64 / 1000).toInt = x.toInt.tdiv 1000 := by
    rw [Int64.toInt_div, Int32.toInt_toInt64]
    show (x.toInt.tdiv 1000).bmod (2 ^ 64) = _
    rw [Int.bmod_eq_of_le] <;> omega
  have AB : (x / 1000).toInt64 = x.toInt64 / 1000 := Int64.toInt_inj.mp (by rw [Int32.toInt_toInt64, A, B])
  have C : (x.toInt64 / 1000 * 1000).toInt = x.toInt.tdiv 1000 * 1000 := by
    rw [Int64.toInt_mul, B]
    show (x.toInt.tdiv 1000 * 1000).bmod (2 ^ 64) = _
    rw [Int.bmod_eq_of_le] <;> omega
  have D : (x / 1000 * 1000).toInt = x.toInt.tdiv 1000 * 1000 := by
    rw [Int32.toInt_mul, A]
    show (x.toInt.tdiv 1000 * 1000).bmod (2 ^ 32) = _
    rw [Int.bmod_eq_of_le] <;> omega
  have E : (x / 1000 - 1).toInt = x.toInt.tdiv 1000 - 1 := by
    rw [Int32.toInt_sub, A]
    show (x.toInt.tdiv 1000 - 1).bmod (2 ^ 32) = _
    rw [Int.bmod_eq_of_le] <;> omega
  have E2 : (x.toInt64 / 1000 - 1).toInt = x.toInt.tdiv 1000 - 1 := by
    rw [Int64.toInt_sub, B]
    show (x.toInt.tdiv 1000 - 1).bmod (2 ^ 64) = _
    rw [Int.bmod_eq_of_le] <;> omega
  have F : (x / 1000 - 1).toInt64 = x.toInt64 / 1000 - 1 := Int64.toInt_inj.mp (by rw [Int32.toInt_toInt64, E, E2])
  unfold ifl ldown
  have hle : x.toInt64 / 1000 * 1000 ≤ x.toInt64 ↔ x.toInt.tdiv 1000 * 1000 ≤ x.toInt := by rw [i64le, C, Int32.toInt_toInt64]
  have heq : x / 1000 * 1000 = x ↔ x.toInt.tdiv 1000 * 1000 = x.toInt := by rw [← Int32.toInt_inj, D]
  by_cases h0 : 0 ≤ x.toInt
  · rw [if_pos ((xor_sign x).mpr h0), if_pos (hle.mpr (by have := hz.1 h0; omega)), AB]
  · rw [if_neg (fun z => h0 ((xor_sign x).mp z))]
    by_cases h1 : x.toInt.tdiv 1000 * 1000 = x.toInt
    · rw [if_pos (heq.mpr h1), if_pos (hle.mpr (by omega)), AB]
    · rw [if_neg (fun z => h1 (heq.mp z)), if_neg (fun z => by have := hle.mp z; have := hz.2 (by omega); omega), F]
