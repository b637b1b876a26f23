/-! a byte of the tape, as the text's byte -/
def tbB (tb : Nat → Int32) (j : Nat) : Nat := (tb j).toBitVec.toNat % 256
theorem by_8 (v : Int32) : (nI (v.toBitVec.toNat % 256)).toInt8 = v.toInt8 := by
  apply Int8.toBitVec_inj.mp
  rw [Int32.toBitVec_toInt8, Int32.toBitVec_toInt8]
  apply BitVec.eq_of_toNat_eq
  rw [BitVec.signExtend_eq_setWidth_of_le _ (by omega), BitVec.signExtend_eq_setWidth_of_le _ (by omega), BitVec.toNat_setWidth, BitVec.toNat_setWidth]
  show (BitVec.ofNat 32 (v.toBitVec.toNat % 256)).toNat % 2 ^ 8 = v.toBitVec.toNat % 2 ^ 8
  rw [BitVec.toNat_ofNat]
  omega
