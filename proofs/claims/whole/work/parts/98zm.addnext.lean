/-! The exchanges from one arrangement: the class (by program, wip/whole/gen98zm.py) -/
def pkB (S : BSt) (i : Nat) : Nat := packA (S.2.1 i) % 262144
/-- what was found: the class's rows -/
def HwT (I J : Nat → Nat → Int) (qc pc sc n : Nat) (S : BSt) : Prop := (∀ i, i < S.1 → I qc i = ((packA (S.2.1 i) + 2097152 * S.2.2.2 i : Nat) : Int) ∧ I pc i = if i = 0 then -1 else (S.2.2.1 i : Int)) ∧ (∃ w : Nat → Nat, (∀ p, p < 4096 → J sc p = jv (w p)) ∧ ∀ v, v < 262144 → (w (v / 64)).testBit (v % 64) = inB (pkB S) v S.1) ∧ (I 83 1 = if inB (nmB n S) 0 S.1 = true then (idxB (nmB n S) 0 S.1 : Int) else -1) ∧ ∀ i, i < S.1 → ∀ j, n ≤ j → S.2.1 i j = j
def WyFr (I' I : Nat → Nat → Int) (qc pc : Nat) : Prop := (∀ b, b ≠ 83 → b ≠ qc → b ≠ pc → I' b = I b) ∧ ∀ i, i ≠ 1 → I' 83 i = I 83 i
section P98zm
variable {d n qc pc sc : Nat} {I I' J A B C : Nat → Nat → Int} {h : IH} {a b : Nat → Nat} {snd : Nat → Nat → Nat → Bool} {S : BSt}
theorem WyFr.rf (I : Nat → Nat → Int) (qc pc : Nat) : WyFr I I qc pc := ⟨fun _ _ _ _ => rfl, fun _ _ => rfl⟩
theorem WyFr.tr (h1 : WyFr A B qc pc) (h2 : WyFr B C qc pc) : WyFr A C qc pc := ⟨fun b q1 q2 q3 => (h1.1 b q1 q2 q3).trans (h2.1 b q1 q2 q3), fun i q => (h1.2 i q).trans (h2.2 i q)⟩
/-- with the rest each their own, seven are arranged -/
theorem perm_up (hn : n ≤ 7) (p : PermN n a) (t : ∀ j, n ≤ j → a j = j) : PermN 7 a := by
  obtain ⟨p1, p2, p3⟩ := p
  refine ⟨fun i hi => ?_, fun i j hi hj e => ?_, fun s hs => ?_⟩
  · by_cases c : i < n
    · have := p1 i c
      omega
    · rw [t i (by omega)]
      exact hi
  · by_cases c : i < n
    · have h1 := p1 i c
      by_cases c2 : j < n
      · exact p2 i j c c2 e
      · rw [t j (by omega)] at e
        omega
    · rw [t i (by omega)] at e
      by_cases c2 : j < n
      · have h1 := p1 j c2
        omega
      · rw [t j (by omega)] at e
        exact e
  · by_cases c : s < n
    · obtain ⟨i, i1, i2⟩ := p3 s c
      exact ⟨i, by omega, i2⟩
    · exact ⟨s, hs, t s (by omega)⟩
/-- the number and the pack tell the same -/
theorem num_pack (hn : n ≤ 7) (pa : PermN n a) (pb : PermN n b) (ta : ∀ j, n ≤ j → a j = j) (tb : ∀ j, n ≤ j → b j = j) : packA a % 262144 = packA b % 262144 ↔ numA n a = numA n b := by
  constructor
  · intro e
    have h := pack_inj (perm_up hn pa ta) (perm_up hn pb tb) e
    have : ∀ t, t ≤ n → numP n a t = numP n b t := by
      intro t
      induction t with
      | zero => intro _; rfl
      | succ t ih =>
        intro ht
        show numP n a t * (n - t) + lehC n a t = numP n b t * (n - t) + lehC n b t
        rw [ih (by omega)]
        congr 1
        exact cntB_eq _ _ fun j j1 j2 => by rw [h j (by omega), h t (by omega)]
    exact this n (Nat.le_refl _)
  · intro e
    have h := numA_inj pa pb e
    have : ∀ i, i < 7 → a i = b i := fun i _ => by
      by_cases c : i < n
      · exact h i c
      · rw [ta i (by omega), tb i (by omega)]
    unfold packA
    rw [this 0 (by omega), this 1 (by omega), this 2 (by omega), this 3 (by omega), this 4 (by omega), this 5 (by omega), this 6 (by omega)]
theorem perm_sm (hn : n ≤ 7) (p : PermN n a) (t : ∀ j, n ≤ j → a j = j) : Sm8 a := fun i hi => Nat.lt_of_lt_of_le ((perm_up hn p t).1 i hi) (by omega)
theorem swA_t {x y : Nat} (hx : x < n) (hy : y < n) (t : ∀ j, n ≤ j → a j = j) : ∀ j, n ≤ j → swA a x y j = j := fun j hj => by
  unfold swA
  rw [if_neg (by omega), if_neg (by omega)]
  exact t j hj
theorem or_add {x y : Nat} (hx : x < 2097152) : x ||| y * 2 ^ 21 = x + 2097152 * y := by
  have := Nat.two_pow_add_eq_or_of_lt (i := 21) (b := x) hx y
  rw [Nat.or_comm, Nat.mul_comm y, ← this]
  show 2097152 * y + x = _
  omega
/-- what both could send -/
theorem both_bits {m1 m2 x y : Nat} (hx : x < 7) (hy : y < 7) (h1 : m1 < 128) (h2 : m2 < 128) : iand (iand (ishr (m1 : Int) (y : Int)) (ishr (m2 : Int) (x : Int))) 1 = if (m1.testBit y && m2.testBit x) = true then 1 else 0 := by
  rw [ishr_n (by omega) (by omega), ishr_n (by omega) (by omega)]
  have b1 : m1 / 2 ^ y < 2147483648 := Nat.lt_of_le_of_lt (Nat.div_le_self _ _) (by omega)
  rw [iand_n b1]
  have b2 : m1 / 2 ^ y &&& m2 / 2 ^ x < 2147483648 := Nat.lt_of_le_of_lt Nat.and_le_left b1
  have e := iand_n (a := m1 / 2 ^ y &&& m2 / 2 ^ x) (b := 1) b2
  rw [show ((1 : Nat) : Int) = 1 from rfl] at e
  rw [e, Nat.and_one_is_mod, show (m1 / 2 ^ y &&& m2 / 2 ^ x) % 2 = if (m1.testBit y && m2.testBit x) = true then 1 else 0 by
    have q : (m1 / 2 ^ y &&& m2 / 2 ^ x).testBit 0 = (m1.testBit y && m2.testBit x) := by
      rw [Nat.testBit_and, Nat.testBit_div_two_pow, Nat.testBit_div_two_pow, Nat.zero_add, Nat.zero_add]
    rw [← q, Nat.testBit_zero]
    by_cases c : (m1 / 2 ^ y &&& m2 / 2 ^ x) % 2 = 1
    · simp [c]
    · have : (m1 / 2 ^ y &&& m2 / 2 ^ x) % 2 = 0 := by omega
      simp [this]]
  split <;> rfl
end P98zm
