/-! Bits of ints and longs that are natural numbers (by program, wip/whole/gen92d.py) -/
section P92d
theorem bv_n {a : Nat} : (Int32.ofInt (a : Int)).toBitVec = BitVec.ofNat 32 a := by
  apply BitVec.eq_of_toInt_eq
  rw [BitVec.toInt_ofNat']
  show (Int32.ofInt (a : Int)).toInt = _
  rw [Int32.toInt_ofInt]
theorem bv_i {a : Nat} (ha : a < 2147483648) : (BitVec.ofNat 32 a).toInt = (a : Int) := by
  rw [BitVec.toInt_ofNat']
  rw [Int.bmod_eq_of_le (by omega) (by omega)]
theorem and_le' (a b : Nat) : a &&& b ≤ a := Nat.and_le_left
theorem iand_n {a b : Nat} (ha : a < 2147483648) : iand (a : Int) (b : Int) = ((a &&& b : Nat) : Int) := by
  unfold iand
  show (Int32.ofInt (a : Int) &&& Int32.ofInt (b : Int)).toBitVec.toInt = _
  rw [Int32.toBitVec_and, bv_n, bv_n, ← BitVec.ofNat_and, bv_i (Nat.lt_of_le_of_lt Nat.and_le_left ha)]
theorem ior_n {a b : Nat} (ha : a < 2147483648) (hb : b < 2147483648) : ior (a : Int) (b : Int) = ((a ||| b : Nat) : Int) := by
  unfold ior
  show (Int32.ofInt (a : Int) ||| Int32.ofInt (b : Int)).toBitVec.toInt = _
  rw [Int32.toBitVec_or, bv_n, bv_n, ← BitVec.ofNat_or, bv_i (Nat.or_lt_two_pow (n := 31) ha hb)]
theorem ixor_n {a b : Nat} (ha : a < 2147483648) (hb : b < 2147483648) : ixor (a : Int) (b : Int) = ((a ^^^ b : Nat) : Int) := by
  unfold ixor
  show (Int32.ofInt (a : Int) ^^^ Int32.ofInt (b : Int)).toBitVec.toInt = _
  rw [Int32.toBitVec_xor, bv_n, bv_n, ← BitVec.ofNat_xor, bv_i (Nat.xor_lt_two_pow (n := 31) ha hb)]
theorem amt_ok : ((List.range 32).all fun k => decide ((Int32.ofInt (k : Int) &&& 31).toBitVec.smod 32 = BitVec.ofNat 32 k)) = true := by decide +kernel
theorem amt {k : Nat} (hk : k < 32) : (Int32.ofInt (k : Int) &&& 31).toBitVec.smod 32 = BitVec.ofNat 32 k := of_decide_eq_true (List.all_eq_true.mp amt_ok k (List.mem_range.mpr hk))
theorem ishl_n {a k : Nat} (hk : k < 32) (ha : a * 2 ^ k < 2147483648) : ishl (a : Int) (k : Int) = ((a * 2 ^ k : Nat) : Int) := by
  unfold ishl
  show (Int32.ofInt (a : Int) <<< (Int32.ofInt (k : Int) &&& 31)).toBitVec.toInt = _
  rw [Int32.toBitVec_shiftLeft, amt hk, bv_n]
  have e : BitVec.ofNat 32 a <<< BitVec.ofNat 32 k = BitVec.ofNat 32 (a * 2 ^ k) := by
    apply BitVec.eq_of_toNat_eq
    rw [BitVec.shiftLeft_eq', BitVec.toNat_shiftLeft, BitVec.toNat_ofNat, BitVec.toNat_ofNat, BitVec.toNat_ofNat, Nat.mod_eq_of_lt (show k < 2 ^ 32 by omega), Nat.shiftLeft_eq, Nat.mod_mul_mod]
  rw [e, bv_i ha]
theorem ishr_n {a k : Nat} (hk : k < 32) (ha : a < 2147483648) : ishr (a : Int) (k : Int) = ((a / 2 ^ k : Nat) : Int) := by
  unfold ishr
  show (Int32.ofInt (a : Int) >>> (Int32.ofInt (k : Int) &&& 31)).toBitVec.toInt = _
  rw [Int32.toBitVec_shiftRight, amt hk, bv_n, BitVec.sshiftRight_eq', BitVec.toInt_sshiftRight, bv_i ha, BitVec.toNat_ofNat, Nat.mod_eq_of_lt (show k < 2 ^ 32 by omega), Int.shiftRight_eq_div_pow]
  simp
/-- a long of these bits -/
def jv (w : Nat) : Int := (BitVec.ofNat 64 w).toInt
theorem bv_l (w : Nat) : (Int64.ofInt (jv w)).toBitVec = BitVec.ofNat 64 w := by
  show BitVec.ofInt 64 (BitVec.ofNat 64 w).toInt = _
  exact BitVec.ofInt_toInt
theorem jv_0 : jv 0 = 0 := by decide
theorem amt_ok64 : ((List.range 64).all fun k => decide ((Int32.toInt64 (Int32.ofInt (k : Int)) &&& 63).toBitVec.smod 64 = BitVec.ofNat 64 k)) = true := by decide +kernel
theorem amt64 {k : Nat} (hk : k < 64) : (Int32.toInt64 (Int32.ofInt (k : Int)) &&& 63).toBitVec.smod 64 = BitVec.ofNat 64 k := of_decide_eq_true (List.all_eq_true.mp amt_ok64 k (List.mem_range.mpr hk))
theorem lshl_n {k : Nat} (hk : k < 64) : lshl 1 (k : Int) = jv (2 ^ k) := by
  unfold lshl jv
  show (Int64.ofInt 1 <<< (Int32.toInt64 (Int32.ofInt (k : Int)) &&& 63)).toBitVec.toInt = _
  rw [Int64.toBitVec_shiftLeft, amt64 hk]
  have e : (Int64.ofInt 1).toBitVec <<< BitVec.ofNat 64 k = BitVec.ofNat 64 (2 ^ k) := by
    apply BitVec.eq_of_toNat_eq
    rw [BitVec.shiftLeft_eq', BitVec.toNat_shiftLeft, BitVec.toNat_ofNat, BitVec.toNat_ofNat, Nat.mod_eq_of_lt (show k < 2 ^ 64 by omega), Nat.shiftLeft_eq, show (Int64.ofInt 1).toBitVec.toNat = 1 by decide, Nat.one_mul]
  rw [e]
theorem land_n (w u : Nat) : land (jv w) (jv u) = jv (w &&& u) := by
  unfold land
  show (Int64.ofInt (jv w) &&& Int64.ofInt (jv u)).toBitVec.toInt = _
  rw [Int64.toBitVec_and, bv_l, bv_l, ← BitVec.ofNat_and]
  rfl
theorem lor_n (w u : Nat) : lor (jv w) (jv u) = jv (w ||| u) := by
  unfold lor
  show (Int64.ofInt (jv w) ||| Int64.ofInt (jv u)).toBitVec.toInt = _
  rw [Int64.toBitVec_or, bv_l, bv_l, ← BitVec.ofNat_or]
  rfl
theorem lcmp_0 (x : Int) : lcmp x 0 = 0 ↔ x = 0 := by
  unfold lcmp
  by_cases c : x < 0
  · rw [if_pos c]
    constructor <;> intro z <;> omega
  · rw [if_neg c]
    by_cases c2 : x = 0
    · rw [if_pos c2]
      exact ⟨fun _ => c2, fun _ => rfl⟩
    · rw [if_neg c2]
      constructor <;> intro z <;> omega
/-- whether a bit stands -/
theorem jv_bit {w k : Nat} (hk : k < 64) : jv (w &&& 2 ^ k) = 0 ↔ w.testBit k = false := by
  have e : jv (w &&& 2 ^ k) = 0 ↔ BitVec.ofNat 64 (w &&& 2 ^ k) = 0#64 := by
    unfold jv
    constructor
    · intro z
      apply BitVec.eq_of_toInt_eq
      rw [z]
      decide
    · intro z
      rw [z]
      decide
  rw [e]
  have hp : 2 ^ k < 2 ^ 64 := Nat.pow_lt_pow_right (by omega) hk
  have hlt : w &&& 2 ^ k < 2 ^ 64 := Nat.lt_of_le_of_lt Nat.and_le_right hp
  constructor
  · intro z
    have z2 : w &&& 2 ^ k = 0 := by
      have := congrArg BitVec.toNat z
      rw [BitVec.toNat_ofNat, Nat.mod_eq_of_lt hlt] at this
      exact this
    have : (w &&& 2 ^ k).testBit k = false := by
      rw [z2]
      exact Nat.zero_testBit k
    rw [Nat.testBit_and, Nat.testBit_two_pow_self, Bool.and_true] at this
    exact this
  · intro z
    have z2 : w &&& 2 ^ k = 0 := by
      apply Nat.eq_of_testBit_eq
      intro i
      rw [Nat.testBit_and, Nat.testBit_two_pow, Nat.zero_testBit]
      by_cases c : k = i
      · rw [← c, z]
        rfl
      · simp [c]
    rw [z2]
end P92d
