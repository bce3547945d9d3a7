/-! A row of exchanges: the class (by program, wip/whole/gen98zo.py) -/
section P98zo
variable {d n qc pc sc : Nat} {I I' J J1 : Nat → Nat → Int} {h : IH} {a b : Nat → Nat} {snd : Nat → Nat → Nat → Bool} {S : BSt}
theorem dig_i (s : Sm8 a) {y : Nat} (hy : y < 7) : iand (ishr (packA a : Int) (wr (3 * (y : Int)))) 7 = (a y : Int) := by
  have l := pack_lt s
  rw [wr_id (x := 3 * (y : Int)) (by omega) (by omega), show 3 * (y : Int) = ((3 * y : Nat) : Int) by omega, ishr_n (by omega) (by omega)]
  have e := iand_n (a := packA a / 2 ^ (3 * y)) (b := 7) (Nat.lt_of_le_of_lt (Nat.div_le_self _ _) (by omega))
  rw [and_7, pack_dig s hy] at e
  exact e
theorem shl_d {e y : Nat} (he : e < 8) (hy : y < 7) : ishl (e : Int) (wr (3 * (y : Int))) = ((e * 2 ^ (3 * y) : Nat) : Int) := by
  rw [wr_id (x := 3 * (y : Int)) (by omega) (by omega), show 3 * (y : Int) = ((3 * y : Nat) : Int) by omega]
  refine ishl_n (by omega) ?_
  have : 2 ^ (3 * y) ≤ 2 ^ 18 := Nat.pow_le_pow_right (by omega) (by omega)
  have := Nat.mul_le_mul (show e ≤ 7 by omega) this
  omega
theorem next_i (s : Sm8 a) {x y : Nat} (hx : x < 7) (hy : y < 7) (hxy : x ≠ y) : ixor (ixor (packA a : Int) (ishl (ixor (a x : Int) (a y : Int)) (wr (3 * (x : Int))))) (ishl (ixor (a x : Int) (a y : Int)) (wr (3 * (y : Int)))) = (packA (swA a x y) : Int) := by
  have l := pack_lt s
  have h1 := s x hx
  have h2 := s y hy
  have hd : a x ^^^ a y < 8 := Nat.xor_lt_two_pow (n := 3) h1 h2
  have k1 : (a x ^^^ a y) * 2 ^ (3 * x) < 2 ^ 31 := by
    have : 2 ^ (3 * x) ≤ 2 ^ 18 := Nat.pow_le_pow_right (by omega) (by omega)
    have := Nat.mul_le_mul (show a x ^^^ a y ≤ 7 by omega) this
    omega
  have k2 : (a x ^^^ a y) * 2 ^ (3 * y) < 2 ^ 31 := by
    have : 2 ^ (3 * y) ≤ 2 ^ 18 := Nat.pow_le_pow_right (by omega) (by omega)
    have := Nat.mul_le_mul (show a x ^^^ a y ≤ 7 by omega) this
    omega
  rw [ixor_n (a := a x) (b := a y) (by omega) (by omega), shl_d hd hx, shl_d hd hy, ixor_n (by omega) k1, ixor_n (Nat.xor_lt_two_pow (n := 31) (by omega) k1) k2, pack_swap s hx hy hxy]
theorem row_full (hn : n ≤ 7) {hd x : Nat} : ∀ (k y : Nat) (S : BSt), y + k = n → x < y → BOk n S → S.1 = 5040 → rowB n snd hd x k y S = S
  | 0, _, _, _, _, _, _ => rfl
  | k + 1, y, S, hy, hx, b, e => by
    have es : stepB n snd hd x y S = S := by
      unfold stepB
      rw [if_neg]
      intro z
      have := b.full hn e (swA (S.2.1 hd) x y)
      rw [z.2] at this
      cases this
    show rowB n snd hd x k (y + 1) (stepB n snd hd x y S) = S
    rw [es]
    exact row_full hn k (y + 1) S (by omega) (by omega) b e
theorem HwT.same (w : HwT I J qc pc sc n S) {v : Nat} (hJ : ∀ W : Nat → Nat, (∀ p, p < 4096 → J sc p = jv (W p)) → ∀ p, p < 4096 → J1 sc p = jv (if p = v % 262144 / 64 then W p ||| 2 ^ (v % 64) else W p)) (hin : inB (pkB S) (v % 262144) S.1 = true) : HwT I J1 qc pc sc n S := by
  obtain ⟨w1, ⟨W, w2, w3⟩, w4, w5⟩ := w
  refine ⟨w1, ⟨_, hJ W w2, fun u hu => ?_⟩, w4, w5⟩
  have h0 := w3 (v % 262144) (by omega)
  rw [hin] at h0
  show (if u / 64 = v % 262144 / 64 then W (u / 64) ||| 2 ^ (v % 64) else W (u / 64)).testBit (u % 64) = _
  rw [← w3 u hu]
  by_cases c : u / 64 = v % 262144 / 64
  · rw [if_pos c, Nat.testBit_or, Nat.testBit_two_pow]
    by_cases c2 : v % 64 = u % 64
    · rw [← c, show v % 262144 % 64 = u % 64 by omega] at h0
      rw [h0]
      simp
    · simp [c2]
  · rw [if_neg c]
end P98zo
