/-! Bits of ints and longs that are natural numbers (by program, wip/whole/gen92d.py) -/
section P92d
theorem bv_n {a : Nat} : (Int32.ofInt (a : Int)).toBitVec = BitVec.ofNat 32 a := by
  apply BitVec.eq_of_toInt_eq
  rw [BitVec.toInt_ofNat']
  show (Int32.ofInt (a : Int)).toInt = _
  rw [Int32.toInt_ofInt]
theorem bv_i {a : Nat} (ha : a < 2147483648) : (BitVec.ofNat 32 a).toInt = (a : Int) := by
  rw [BitVec.toInt_ofNat']
  rw [Int.bmod_eq_of_le (by omega) (by omega)]
theorem and_le' (a b : Nat) : a &&& b ≤ a := Nat.and_le_left
theorem iand_n {a b : Nat} (ha : a < 2147483648) : iand (a : Int) (b : Int) = ((a &&& b : Nat) : Int) := by
  unfold iand
  show (Int32.ofInt (a : Int) &&& Int32.ofInt (b : Int)).toBitVec.toInt = _
  rw [Int32.toBitVec_and, bv_n, bv_n, ← BitVec.ofNat_and, bv_i (Nat.lt_of_le_of_lt Nat.and_le_left ha)]
theorem ior_n {a b : Nat} (ha : a < 2147483648) (hb : b < 2147483648) : ior (a : Int) (b : Int) = ((a ||| b : Nat) : Int) := by
  unfold ior
  show (Int32.ofInt (a : Int) ||| Int32.ofInt (b : Int)).toBitVec.toInt = _
  rw [Int32.toBitVec_or, bv_n, bv_n, ← BitVec.ofNat_or, bv_i (Nat.or_lt_two_pow (n := 31) ha hb)]
theorem ixor_n {a b : Nat} (ha : a < 2147483648) (hb : b < 2147483648) : ixor (a : Int) (b : Int) = ((a ^^^ b : Nat) : Int) := by
  unfold ixor
  show (Int32.ofInt (a : Int) ^^^ Int32.ofInt (b : Int)).toBitVec.toInt = _
  rw [Int32.toBitVec_xor, bv_n, bv_n, ← BitVec.ofNat_xor, bv_i (Nat.xor_lt_two_pow (n := 31) ha hb)]
theorem amt_ok : ((List.range 32).all fun k => decide ((Int32.ofInt (k : Int) &&& 31).toBitVec.smod 32 = BitVec.ofNat 32 k)) = true := by decide +kernel
theorem amt {k : Nat} (hk : k < 32) : (Int32.ofInt (k : Int) &&& 31).toBitVec.smod 32 = BitVec.ofNat 32 k := of_decide_eq_true (List.all_eq_true.mp amt_ok k (List.mem_range.mpr hk))
theorem ishl_n {a k : Nat} (hk : k < 32) (ha : a * 2 ^ k < 2147483648) : ishl (a : Int) (k : Int) = ((a * 2 ^ k : Nat) : Int) := by
  unfold ishl
  show (Int32.ofInt (a : Int) <<< (Int32.ofInt (k : Int) &&& 31)).toBitVec.toInt = _
  rw [Int32.toBitVec_shiftLeft, amt hk, bv_n]
  have e : BitVec.ofNat 32 a <<< BitVec.ofNat 32 k = BitVec.ofNat 32 (a * 2 ^ k) := by
    apply BitVec.eq_of_toNat_eq
    rw [BitVec.shiftLeft_eq', BitVec.toNat_shiftLeft, BitVec.toNat_ofNat, BitVec.toNat_ofNat, BitVec.toNat_ofNat, Nat.mod_eq_of_lt (show k < 2 ^ 32 by omega), Nat.shiftLeft_eq, Nat.mod_mul_mod]
  rw [e, bv_i ha]
theorem ishr_n {a k : Nat} (hk : k < 32) (ha : a < 2147483648) : ishr (a : Int) (k : Int) = ((a / 2 ^ k : Nat) : Int) := by
  unfold ishr
  show (Int32.ofInt (a : Int) >>> (Int32.ofInt (k : Int) &&& 31)).toBitVec.toInt = _
  rw [Int32.toBitVec_shiftRight, amt hk, bv_n, BitVec.sshiftRight_eq', BitVec.toInt_sshiftRight, bv_i ha, BitVec.toNat_ofNat, Nat.mod_eq_of_lt (show k < 2 ^ 32 by omega), Int.shiftRight_eq_div_pow]
  simp
end P92d
