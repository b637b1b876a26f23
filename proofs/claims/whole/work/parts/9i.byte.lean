/-! a byte of the tape, as the text's byte -/
def tbB (tb : Nat → Int32) (j : Nat) : Nat := (tb j).toBitVec.toNat % 256
theorem by_8 (v : Int32) : (nI (v.toBitVec.toNat % 256)).toInt8 = v.toInt8 := by
  apply Int8.toBitVec_inj.mp
  rw [Int32.toBitVec_toInt8, Int32.toBitVec_toInt8]
  apply BitVec.eq_of_toNat_eq
  rw [BitVec.signExtend_eq_setWidth_of_le _ (by omega), BitVec.signExtend_eq_setWidth_of_le _ (by omega), BitVec.toNat_setWidth, BitVec.toNat_setWidth]
  show (BitVec.ofNat 32 (v.toBitVec.toNat % 256)).toNat % 2 ^ 8 = v.toBitVec.toNat % 2 ^ 8
  rw [BitVec.toNat_ofNat]
  omega
theorem sB_id : ∀ b, b < 256 → vp_nar .byte (vp_nar .byte (sB b)) = sB b := by decide +kernel
theorem by_c {v w : Int32} (h : w = zby v) : vp_nar .byte w = sB (v.toBitVec.toNat % 256) := by
  have e : v.toInt8.toInt32 = sB (v.toBitVec.toNat % 256) := by unfold sB; rw [by_8]
  rw [h]; unfold zby; rw [e]
  exact sB_id _ (Nat.mod_lt _ (by omega))
theorem by_r (v : Int32) : v &&& 255 = nI (v.toBitVec.toNat % 256) := by
  apply Int32.toBitVec_inj.mp
  rw [Int32.toBitVec_and]
  apply BitVec.eq_of_toNat_eq
  rw [BitVec.toNat_and]
  show v.toBitVec.toNat &&& 255 = (BitVec.ofNat 32 (v.toBitVec.toNat % 256)).toNat
  rw [BitVec.toNat_ofNat, show (255 : Nat) = 2 ^ 8 - 1 from rfl, Nat.and_two_pow_sub_one_eq_mod]
  omega
