/-! ===== what a rule's codes come to: the reference ===== -/
theorem nI_low {s v : Nat} (hs : s < 16) : nI (s + 16 * v) &&& (15 : Int32) = nI s := by
  apply Int32.toBitVec_inj.mp
  show BitVec.ofNat 32 (s + 16 * v) &&& BitVec.ofNat 32 (2 ^ 4 - 1) = BitVec.ofNat 32 s
  rw [← BitVec.ofNat_and, Nat.and_two_pow_sub_one_eq_mod]
  congr 1
  omega
theorem nI_hi {s v : Nat} (hs : s < 16) (hv : v < 2 ^ 26) : nI (s + 16 * v) >>> ((4 : Int32) &&& 31) = nI v := by
  apply Int32.toInt_inj.mp
  have t1 : (nI (s + 16 * v)).toInt = (s + 16 * v : Nat) := Int32.toInt_ofNat_of_lt (by omega)
  have t2 : (nI v).toInt = (v : Nat) := Int32.toInt_ofNat_of_lt (by omega)
  rw [t2]
  show (((nI (s + 16 * v)).toBitVec).sshiftRight (((4 : Int32) &&& 31).toBitVec.smod 32).toNat).toInt = _
  rw [show ((((4 : Int32) &&& 31)).toBitVec.smod 32).toNat = 4 by decide, BitVec.toInt_sshiftRight]
  show (nI (s + 16 * v)).toInt >>> 4 = _
  rw [t1, Int.shiftRight_eq_div_pow]
  omega
