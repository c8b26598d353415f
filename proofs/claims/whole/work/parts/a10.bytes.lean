/-! the bytes of a number, on both sides -/
theorem by_bv (x : BitVec 32) (s : Nat) (hs : s ≤ 24) : BitVec.signExtend 8 (x >>> s) = BitVec.signExtend 8 (x.sshiftRight s) := by
  apply BitVec.eq_of_getLsbD_eq
  intro i hi
  rw [BitVec.getLsbD_signExtend, BitVec.getLsbD_signExtend, BitVec.getLsbD_ushiftRight, BitVec.getLsbD_sshiftRight]
  rw [if_pos (by omega), if_pos (by omega), if_pos (by omega)]
  have : ¬ 32 ≤ i := by omega
  simp [this]
theorem by_eq (x : Int32) (s : Int32) (hs : s = 24 ∨ s = 16 ∨ s = 8 ∨ s = 0) : ((x.toUInt32 >>> (s.toUInt32 &&& Int32.toUInt32 31)).toInt32).toInt8 = (x >>> (s &&& 31)).toInt8 := by
  apply Int8.toBitVec_inj.mp
  rcases hs with rfl | rfl | rfl | rfl
  · have := by_bv x.toBitVec 24 (by omega)
    simp [Int32.toBitVec_shiftRight]
    exact this
  · have := by_bv x.toBitVec 16 (by omega)
    simp [Int32.toBitVec_shiftRight]
    exact this
  · have := by_bv x.toBitVec 8 (by omega)
    simp [Int32.toBitVec_shiftRight]
    exact this
  · have := by_bv x.toBitVec 0 (by omega)
    simp [Int32.toBitVec_shiftRight]
