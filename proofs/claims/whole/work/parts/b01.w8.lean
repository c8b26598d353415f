theorem w8 {w c : Nat} (hw : w < 72057594037927936) (hc : c < 256) : (lN w <<< ((8 : Int32).toInt64 &&& 63)) ||| (nI c).toInt64 = lN (256 * w + c) := by
  rw [nI_l (by omega)]
  apply Int64.toBitVec_inj.mp
  have e1 : (((8 : Int32).toInt64 &&& 63).toBitVec.smod 64).toNat = 8 := by decide
  have e2 : ((lN w <<< ((8 : Int32).toInt64 &&& 63)) ||| lN c).toBitVec = ((lN w).toBitVec <<< (((8 : Int32).toInt64 &&& 63).toBitVec.smod 64)) ||| (lN c).toBitVec := rfl
  rw [e2]
  apply BitVec.eq_of_toNat_eq
  have a1 : (lN w).toBitVec.toNat = w := by
    show (BitVec.ofNat 64 w).toNat = w
    rw [BitVec.toNat_ofNat]; exact Nat.mod_eq_of_lt (by omega)
  have a2 : (lN c).toBitVec.toNat = c := by
    show (BitVec.ofNat 64 c).toNat = c
    rw [BitVec.toNat_ofNat]; exact Nat.mod_eq_of_lt (by omega)
  have a3 : (lN (256 * w + c)).toBitVec.toNat = 256 * w + c := by
    show (BitVec.ofNat 64 (256 * w + c)).toNat = 256 * w + c
    rw [BitVec.toNat_ofNat]; exact Nat.mod_eq_of_lt (by omega)
  rw [a3, BitVec.toNat_or, a2, BitVec.shiftLeft_eq', BitVec.toNat_shiftLeft, e1, a1]
  have a4 : w <<< 8 % 2 ^ 64 = w <<< 8 := by
    apply Nat.mod_eq_of_lt
    rw [Nat.shiftLeft_eq]; omega
  rw [a4, ← Nat.shiftLeft_add_eq_or_of_lt (by omega), Nat.shiftLeft_eq]; omega
