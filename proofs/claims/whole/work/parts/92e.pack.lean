/-! Arrangements packed by three bits (by program, wip/whole/gen92e.py) -/
def packA (a : Nat → Nat) : Nat := a 0 + 8 * a 1 + 64 * a 2 + 512 * a 3 + 4096 * a 4 + 32768 * a 5 + 262144 * a 6
def Sm8 (a : Nat → Nat) : Prop := ∀ i, i < 7 → a i < 8
section P92e
variable {a b : Nat → Nat}
theorem pack_lt (s : Sm8 a) : packA a < 2097152 := by
  have h0 := s 0 (by omega)
  have h1 := s 1 (by omega)
  have h2 := s 2 (by omega)
  have h3 := s 3 (by omega)
  have h4 := s 4 (by omega)
  have h5 := s 5 (by omega)
  have h6 := s 6 (by omega)
  unfold packA
  omega
theorem pack_dig (s : Sm8 a) {i : Nat} (hi : i < 7) : packA a / 2 ^ (3 * i) % 8 = a i := by
  have h0 := s 0 (by omega)
  have h1 := s 1 (by omega)
  have h2 := s 2 (by omega)
  have h3 := s 3 (by omega)
  have h4 := s 4 (by omega)
  have h5 := s 5 (by omega)
  have h6 := s 6 (by omega)
  unfold packA
  rcases (show i = 0 ∨ i = 1 ∨ i = 2 ∨ i = 3 ∨ i = 4 ∨ i = 5 ∨ i = 6 by omega) with rfl | rfl | rfl | rfl | rfl | rfl | rfl
  · show _ / 1 % 8 = _
    omega
  · show _ / 8 % 8 = _
    omega
  · show _ / 64 % 8 = _
    omega
  · show _ / 512 % 8 = _
    omega
  · show _ / 4096 % 8 = _
    omega
  · show _ / 32768 % 8 = _
    omega
  · show _ / 262144 % 8 = _
    omega
theorem and_7 (x : Nat) : x &&& 7 = x % 8 := Nat.and_two_pow_sub_one_eq_mod x 3
theorem and_63 (x : Nat) : x &&& 63 = x % 64 := Nat.and_two_pow_sub_one_eq_mod x 6
theorem and_18 (x : Nat) : x &&& 262143 = x % 262144 := Nat.and_two_pow_sub_one_eq_mod x 18
theorem and_21 (x : Nat) : x &&& 2097151 = x % 2097152 := Nat.and_two_pow_sub_one_eq_mod x 21
theorem pack_bit (s : Sm8 a) {i r : Nat} (hi : i < 7) (hr : r < 3) : (packA a).testBit (3 * i + r) = (a i).testBit r := by
  have e := pack_dig s hi
  have h1 : (packA a / 2 ^ (3 * i) % 2 ^ 3).testBit r = (packA a).testBit (3 * i + r) := by
    rw [Nat.testBit_mod_two_pow, Nat.testBit_div_two_pow]
    simp [hr, Nat.add_comm]
  rw [← h1, show (2 : Nat) ^ 3 = 8 from rfl, e]
theorem bit_hi {x k j : Nat} (hx : x < 2 ^ k) (hj : k ≤ j) : x.testBit j = false := Nat.testBit_lt_two_pow (Nat.lt_of_lt_of_le hx (Nat.pow_le_pow_right (by omega) hj))
/-- two exchanged, by exclusive or -/
theorem pack_swap (s : Sm8 a) {x y : Nat} (hx : x < 7) (hy : y < 7) (hxy : x ≠ y) : (packA a ^^^ ((a x ^^^ a y) * 2 ^ (3 * x))) ^^^ ((a x ^^^ a y) * 2 ^ (3 * y)) = packA (swA a x y) := by
  have s2 : Sm8 (swA a x y) := fun i hi => by
    unfold swA
    split
    · exact s y hy
    · split
      · exact s x hx
      · exact s i hi
  have hd : a x ^^^ a y < 2 ^ 3 := Nat.xor_lt_two_pow (s x hx) (s y hy)
  have l1 := pack_lt s
  have l2 := pack_lt s2
  apply Nat.eq_of_testBit_eq
  intro j
  rw [Nat.testBit_xor, Nat.testBit_xor, Nat.testBit_mul_two_pow, Nat.testBit_mul_two_pow]
  by_cases hj : j < 21
  · obtain ⟨i, r, hi, hr, ej⟩ : ∃ i r, i < 7 ∧ r < 3 ∧ j = 3 * i + r := ⟨j / 3, j % 3, by omega, by omega, by omega⟩
    subst ej
    rw [pack_bit s hi hr, pack_bit s2 hi hr]
    have dz : ∀ z, z < 7 → (decide (3 * z ≤ 3 * i + r) && (a x ^^^ a y).testBit (3 * i + r - 3 * z)) = if i = z then (a x ^^^ a y).testBit r else false := fun z hz => by
      by_cases c : i = z
      · rw [if_pos c, c, show 3 * z + r - 3 * z = r by omega]
        simp
      · rw [if_neg c]
        by_cases c2 : 3 * z ≤ 3 * i + r
        · rw [bit_hi hd (show 3 ≤ 3 * i + r - 3 * z by omega)]
          simp
        · simp [c2]
    have dx := dz x hx
    have dy := dz y hy
    rw [dx, dy]
    unfold swA
    by_cases c : i = x
    · rw [if_pos c, if_neg (by omega), if_pos c, c, Nat.testBit_xor]
      cases (a x).testBit r <;> cases (a y).testBit r <;> rfl
    · rw [if_neg c, if_neg c]
      by_cases c2 : i = y
      · rw [if_pos c2, if_pos c2, c2, Nat.testBit_xor]
        cases (a x).testBit r <;> cases (a y).testBit r <;> rfl
      · rw [if_neg c2, if_neg c2]
        cases (a i).testBit r <;> rfl
  · have b1 : (packA a).testBit j = false := bit_hi (k := 21) l1 (by omega)
    have b2 : (packA (swA a x y)).testBit j = false := bit_hi (k := 21) l2 (by omega)
    rw [b1, b2, bit_hi hd (show 3 ≤ j - 3 * x by omega), bit_hi hd (show 3 ≤ j - 3 * y by omega)]
    simp
/-- six of seven tell the seventh -/
theorem perm_7 (pa : PermN 7 a) (pb : PermN 7 b) (e : ∀ i, i < 6 → a i = b i) : a 6 = b 6 := by
  obtain ⟨j, j1, j2⟩ := pb.2.2 (a 6) (pa.1 6 (by omega))
  by_cases c : j < 6
  · have := pa.2.1 j 6 (by omega) (by omega) (by rw [e j c, j2])
    omega
  · rw [← j2, show j = 6 by omega]
theorem pack_inj (pa : PermN 7 a) (pb : PermN 7 b) (e : packA a % 262144 = packA b % 262144) : ∀ i, i < 7 → a i = b i := by
  have sa : Sm8 a := fun i hi => Nat.lt_of_lt_of_le (pa.1 i hi) (by omega)
  have sb : Sm8 b := fun i hi => Nat.lt_of_lt_of_le (pb.1 i hi) (by omega)
  have h0 := sa 0 (by omega)
  have h1 := sa 1 (by omega)
  have h2 := sa 2 (by omega)
  have h3 := sa 3 (by omega)
  have h4 := sa 4 (by omega)
  have h5 := sa 5 (by omega)
  have h6 := sa 6 (by omega)
  have g0 := sb 0 (by omega)
  have g1 := sb 1 (by omega)
  have g2 := sb 2 (by omega)
  have g3 := sb 3 (by omega)
  have g4 := sb 4 (by omega)
  have g5 := sb 5 (by omega)
  have g6 := sb 6 (by omega)
  unfold packA at e
  have e0 : a 0 = b 0 := by omega
  have e1 : a 1 = b 1 := by omega
  have e2 : a 2 = b 2 := by omega
  have e3 : a 3 = b 3 := by omega
  have e4 : a 4 = b 4 := by omega
  have e5 : a 5 = b 5 := by omega
  have six : ∀ i, i < 6 → a i = b i := fun i hi => by
    rcases (show i = 0 ∨ i = 1 ∨ i = 2 ∨ i = 3 ∨ i = 4 ∨ i = 5 by omega) with rfl | rfl | rfl | rfl | rfl | rfl
    · exact e0
    · exact e1
    · exact e2
    · exact e3
    · exact e4
    · exact e5
  intro i hi
  by_cases c : i < 6
  · exact six i c
  · rw [show i = 6 by omega]
    exact perm_7 pa pb six
end P92e
