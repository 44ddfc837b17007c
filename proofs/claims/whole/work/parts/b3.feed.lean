/-! bytes fed: both classes -/
theorem bv_low (X : BitVec 32) (k : Nat) (hk : k ≤ 24) : (X.sshiftRight k).signExtend 8 = BitVec.ofNat 8 ((X >>> k) &&& 255#32).toNat := by
  have h255 : ∀ i, i < 8 → (255#32).getLsbD i = true := by decide
  rw [BitVec.ofNat_toNat]
  apply BitVec.eq_of_getLsbD_eq
  intro i hi
  rw [BitVec.getLsbD_signExtend, BitVec.getLsbD_setWidth, BitVec.getLsbD_and, h255 i hi, BitVec.getLsbD_sshiftRight, BitVec.getLsbD_ushiftRight]
  have h1 : i < 32 := by omega
  have h2 : k + i < 32 := by omega
  have h3 : ¬ 32 ≤ i := by omega
  simp [hi, h1, h2, h3]
theorem i8_sb : ∀ t, t < 256 → (Int8.ofNat t).toInt32 = sb t := by decide +kernel
theorem byte_k (x : Int32) (k : Nat) (hk : k ≤ 24) (v w : Int32) (hv : v.toBitVec = (x.toBitVec >>> k) &&& 255#32) (hw : w.toInt8.toBitVec = (x.toBitVec.sshiftRight k).signExtend 8) : ∃ t, t < 256 ∧ v = nI t ∧ vp_nar .byte w.toInt8.toInt32 = sb t := by
  have ht : ((x.toBitVec >>> k) &&& 255#32).toNat < 256 := by
    rw [BitVec.toNat_and]
    exact Nat.lt_of_le_of_lt Nat.and_le_right (by decide)
  refine ⟨((x.toBitVec >>> k) &&& 255#32).toNat, ht, ?_, ?_⟩
  · apply Int32.toBitVec_inj.mp
    rw [hv]
    show _ = (Int32.ofNat _).toBitVec
    rw [Int32.toBitVec_ofNat', BitVec.ofNat_toNat, BitVec.setWidth_eq]
  · rw [pk_vb, ← i8_sb _ ht]
    congr 1
    apply Int8.toBitVec_inj.mp
    rw [hw, bv_low _ _ hk, Int8.toBitVec_ofNat']
theorem byte_24 (x : Int32) : ∃ t, t < 256 ∧ (((x : Int32).toUInt32 >>> ((24 : Int32).toUInt32 &&& Int32.toUInt32 31)).toInt32 &&& 255) = nI t ∧ vp_nar .byte ((x >>> ((24 : Int32) &&& 31) : Int32).toInt8.toInt32) = sb t := byte_k x 24 (by decide) _ _ rfl rfl
theorem byte_16 (x : Int32) : ∃ t, t < 256 ∧ (((x : Int32).toUInt32 >>> ((16 : Int32).toUInt32 &&& Int32.toUInt32 31)).toInt32 &&& 255) = nI t ∧ vp_nar .byte ((x >>> ((16 : Int32) &&& 31) : Int32).toInt8.toInt32) = sb t := byte_k x 16 (by decide) _ _ rfl rfl
theorem byte_8 (x : Int32) : ∃ t, t < 256 ∧ (((x : Int32).toUInt32 >>> ((8 : Int32).toUInt32 &&& Int32.toUInt32 31)).toInt32 &&& 255) = nI t ∧ vp_nar .byte ((x >>> ((8 : Int32) &&& 31) : Int32).toInt8.toInt32) = sb t := byte_k x 8 (by decide) _ _ rfl rfl
theorem byte_0 (x : Int32) : ∃ t, t < 256 ∧ (((x : Int32).toUInt32 >>> ((0 : Int32).toUInt32 &&& Int32.toUInt32 31)).toInt32 &&& 255) = nI t ∧ vp_nar .byte ((x >>> ((0 : Int32) &&& 31) : Int32).toInt8.toInt32) = sb t := byte_k x 0 (by decide) _ _ rfl rfl
