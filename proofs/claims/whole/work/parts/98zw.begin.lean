/-! What stands at the start (by program, wip/whole/gen98zw.py) -/
section P98zw
variable {L : Nat} {xs : Nat → Int32} {h : IH} {I J : Nat → Nat → Int}
theorem i0_bit : ∀ y : Nat, y < 7 → iand (ishr 0 (y : Int)) 1 = 0 := fun y hy => by
  have e := ishr_n (a := 0) (k := y) (by omega) (by omega)
  rw [Nat.zero_div] at e
  have e' : ishr 0 (y : Int) = 0 := e
  rw [e']
  exact iand_n (a := 0) (b := 1) (by omega)
theorem landR_in (k i : Nat) : inr (landR k i) := by
  unfold landR inr
  (repeat' split) <;> omega
theorem LdR_0 {a : Nat} (e0 : I a = fun i => if i = 14 then -1 else 0) (e : ∀ i, 0 < i → i < 12 → I (a + i) = landR i) : LdR I a := by
  refine ⟨fun b b1 b2 kx => ?_, fun kx => ?_, fun kx => ?_, fun kx => ?_⟩
  · by_cases z : b = a
    · rw [z, e0]
      unfold inr
      dsimp only
      split <;> omega
    · have := e (b - a) (by omega) (by omega)
      rw [show a + (b - a) = b by omega] at this
      rw [this]
      exact landR_in _ _
  · rw [e 3 (by omega) (by omega)]
    exact (show 0 ≤ (0 : Int) ∧ (0 : Int) ≤ 9 by omega)
  · rw [e 5 (by omega) (by omega)]
    exact (show 0 ≤ (0 : Int) ∧ (0 : Int) ≤ 99 by omega)
  · rw [e 7 (by omega) (by omega)]
    exact (show 0 ≤ (0 : Int) ∧ (0 : Int) < 128 by omega)
theorem Start_inv (s : Start L xs h I J) : Inv L xs 0 h I := by
  obtain ⟨s1, s2, s3, s4, ⟨s5, s6, s7⟩, s8, s9, ⟨s10, s11⟩, s12, s13, s14⟩ := s
  have eK : ∀ i, I 90 i = if i = 181 then 1 else if i = 186 then -1 else 0 := fun i => by
    rw [s13 90 (by omega) (by omega)]
    rfl
  have K0 : ∀ i, i ≠ 181 → i ≠ 186 → I 90 i = 0 := fun i q1 q2 => by rw [eK, if_neg q1, if_neg q2]
  have k183 : I 90 183 = 0 := K0 183 (by omega) (by omega)
  have k185 : I 90 185 = 0 := K0 185 (by omega) (by omega)
  have e4 : I 4 = fun i => if i = 14 then -1 else 0 := by
    rw [s12 4 (by omega) (by omega)]
    rfl
  have e28 : I 28 = fun i => if i = 14 then -1 else 0 := by
    rw [s12 28 (by omega) (by omega)]
    rfl
  have r4 : ∀ i, 0 < i → i < 12 → I (4 + i) = landR i := fun i i1 i2 => by
    rw [s12 (4 + i) (by omega) (by omega)]
    unfold startT
    rw [if_neg (by omega), if_pos (by omega)]
    unfold landO
    rw [show 4 + i - 4 = i by omega, if_neg (by omega)]
  have r28 : ∀ i, 0 < i → i < 12 → I (28 + i) = landR i := fun i i1 i2 => by
    rw [s12 (28 + i) (by omega) (by omega)]
    unfold startT
    rw [if_neg (by omega), if_neg (by omega), if_neg (by omega), if_pos (by omega)]
    unfold landO
    rw [show 28 + i - 28 = i by omega, if_neg (by omega)]
  have z0 : ∀ b, (44 ≤ b ∧ b ≤ 61) ∨ (41 ≤ b ∧ b ≤ 42) ∨ (63 ≤ b ∧ b ≤ 82) ∨ (84 ≤ b ∧ b ≤ 87) → I b = fun _ => 0 := fun b hb => by
    rw [s12 b (by omega) (by omega)]
    unfold startT
    rw [if_neg (by omega), if_neg (by omega), if_neg (by omega), if_neg (by omega), if_neg (by omega), if_neg (by omega), if_neg (by omega)]
  have m0 : ∀ b, 88 < b → b < 118 → b ≠ 90 → b ≠ 94 → I b = fun _ => 0 := fun b b1 b2 b3 b4 => by
    rw [s13 b (by omega) (by omega)]
    unfold startM
    rw [if_neg (by omega), if_neg (by omega), if_neg (by omega)]
  have e88 : ∀ i, I 88 i = if i = 14 ∨ i = 47 ∨ i = 55 then -1 else 0 := fun i => by
    rw [s13 88 (by omega) (by omega)]
    rfl
  have e88z : ∀ i, i ≠ 14 → i ≠ 47 → i ≠ 55 → I 88 i = 0 := fun i q1 q2 q3 => by rw [e88, if_neg (by omega)]
  have e3 : ∀ i, I 3 i = if i = 17 then -1 else 0 := fun i => by
    rw [s12 3 (by omega) (by omega)]
    rfl
  have w94 : ∀ i, I 94 i = wordB.getD i 0 := fun i => by
    rw [s13 94 (by omega) (by omega)]
    rfl
  have f83 : I 83 2 = -1 := by
    rw [s12 83 (by omega) (by omega)]
    rfl
  have kok : KOk (I 90) := by
    refine ⟨by rw [k183]; omega, ⟨fun u hu => ?_, fun s hs => ?_⟩, ⟨fun s hs => ?_, fun i hi => ?_, fun x y hx hy => ?_, fun x hx => ?_⟩, ?_, ⟨?_, fun i hi => ?_⟩, ?_⟩
    · rw [k183] at hu
      omega
    · rw [k183] at hs
      omega
    · rw [K0 (7 + s) (by omega) (by omega), K0 (113 + s) (by omega) (by omega)]
      omega
    · rw [K0 (14 + i) (by omega) (by omega), K0 (63 + i) (by omega) (by omega), K0 (120 + i) (by omega) (by omega)]
      exact ⟨by omega, Or.inl rfl, by omega⟩
    · rw [K0 (63 + (7 * x + y)) (by omega) (by omega), K0 (63 + (7 * y + x)) (by omega) (by omega)]
    · rw [K0 (120 + 8 * x) (by omega) (by omega)]
    · have a1 : I 90 181 = 1 := by rw [eK, if_pos rfl]
      rw [K0 112 (by omega) (by omega), K0 182 (by omega) (by omega), a1]
      omega
    · rw [K0 184 (by omega) (by omega)]
      omega
    · rw [K0 184 (by omega) (by omega)] at hi
      omega
    · have a1 : I 90 186 = -1 := by rw [eK, if_neg (by omega), if_pos rfl]
      rw [k185, a1]
      omega
  have ld4 := LdR_0 (a := 4) e4 r4
  have rl : RL h I 4 (I 90) (fun _ => (0, fun _ => ((0 : Int), (0 : Int), fun _ => none))) := by
    refine ⟨by rw [e4, k183]; rfl, fun t ht => ?_, ⟨fun s hs => ?_, fun i hi => ?_, fun x y hx hy => ?_⟩, ⟨?_, ?_, ?_⟩, ⟨?_, fun i hi => ?_⟩, ⟨?_, ?_, fun j hj => ?_⟩, ld4⟩
    · rw [k183, if_neg (by omega), if_neg (by omega), r4 1 (by omega) (by omega), r4 2 (by omega) (by omega)]
      have w : ∀ k, k = 1 ∨ k = 2 → landR k t = (t : Int) := fun k hk => by
        unfold landR
        rw [if_pos hk, if_pos ht]
      exact ⟨w 1 (Or.inl rfl), w 2 (Or.inr rfl)⟩
    · rw [r4 3 (by omega) (by omega), r4 4 (by omega) (by omega), K0 (7 + s) (by omega) (by omega), K0 (113 + s) (by omega) (by omega)]
      exact ⟨rfl, rfl⟩
    · rw [r4 5 (by omega) (by omega), r4 6 (by omega) (by omega), K0 (14 + i) (by omega) (by omega), K0 (120 + i) (by omega) (by omega)]
      exact ⟨rfl, rfl⟩
    · have a1 : I (4 + 7) x = 0 := by rw [r4 7 (by omega) (by omega)]; rfl
      rw [a1, K0 (63 + (7 * x + y)) (by omega) (by omega)]
      exact i0_bit y hy
    · rw [r4 8 (by omega) (by omega), K0 112 (by omega) (by omega)]
      rfl
    · rw [r4 8 (by omega) (by omega), eK, if_pos rfl]
      rfl
    · rw [r4 8 (by omega) (by omega), K0 182 (by omega) (by omega)]
      rfl
    · rw [e4, K0 184 (by omega) (by omega)]
      rfl
    · rw [r4 9 (by omega) (by omega), r4 10 (by omega) (by omega), K0 (169 + 2 * i) (by omega) (by omega), K0 (170 + 2 * i) (by omega) (by omega)]
      exact ⟨rfl, rfl⟩
    · rw [e4, k185]
      rfl
    · rw [e4, eK, if_neg (by omega), if_pos rfl]
      rfl
    · rw [k185] at hj
      omega
  have iv : ∀ y, IvI h I (fun b => b) y := fun y => Or.inl ⟨s10 y, by rw [m0 92 (by omega) (by omega) (by omega) (by omega)]⟩
  refine ⟨fun b => b, ⟨s1, s2, ⟨s5, s6, s7⟩, s8, w94⟩, ⟨⟨fun _ => (0, fun _ => ((0 : Int), (0 : Int), fun _ => none)), rl, kok, fun j hj => ?_⟩, fun j x hx => ?_⟩, ⟨⟨iv 0, iv 1⟩, fun x y hx _ => ?_⟩, ⟨⟨?_, ?_⟩, fun i => ?_, ?_, fun i => ?_⟩, ⟨0, 0, by omega, by omega, ?_, ?_, ?_, fun i hi => absurd hi (by omega)⟩, ⟨?_, ?_, fun t _ ht => ?_, LdR_0 e28 r28⟩, ⟨⟨?_, ?_, ?_⟩, ⟨?_, ?_, ?_, ?_, ?_⟩, fun j hj => ?_⟩, Or.inl ⟨s11, Or.inl f83⟩, ⟨by omega, by omega, Or.inl ⟨s11, by omega, by omega⟩⟩⟩
  · rw [k185] at hj
    omega
  · rw [s9 j] at hx
    cases hx
  · rw [s10 0] at hx
    cases hx
  · rw [z0 41 (by omega), e88z 13 (by omega) (by omega) (by omega)]
  · rw [e88z 13 (by omega) (by omega) (by omega)]
    omega
  · rw [z0 42 (by omega), m0 95 (by omega) (by omega) (by omega) (by omega)]
    exact (show (0 ≤ (0 : Int) ∧ (0 : Int) ≤ 255) ∧ (0 : Int) = sb 0 from ⟨by omega, rfl⟩)
  · rw [e88, if_pos (by omega), s12 43 (by omega) (by omega)]
    rfl
  · rw [z0 45 (by omega), z0 46 (by omega)]
    exact (show (0 ≤ (0 : Int) ∧ (0 : Int) ≤ 12) ∧ 0 ≤ (0 : Int) ∧ (0 : Int) ≤ 1000 by omega)
  · rw [z0 72 (by omega)]
    rfl
  · rw [z0 72 (by omega)]
    rfl
  · rw [e88z 31 (by omega) (by omega) (by omega)]
    rfl
  · rw [e28]
    exact (show 0 ≤ (0 : Int) ∧ (0 : Int) ≤ 7 by omega)
  · rw [e28, e88, if_pos (by omega)]
    exact Or.inr ⟨rfl, rfl⟩
  · rw [e28] at ht
    have ht' : (t : Int) < 0 := ht
    omega
  · rw [e3, e88z 0 (by omega) (by omega) (by omega), if_neg (by omega)]
  · rw [e3, e88z 6 (by omega) (by omega) (by omega), if_neg (by omega)]
  · rw [e3, e88, if_pos rfl, if_pos (by omega)]
  · rw [z0 87 (by omega), m0 89 (by omega) (by omega) (by omega) (by omega)]
  · rw [z0 87 (by omega), m0 89 (by omega) (by omega) (by omega) (by omega)]
  · rw [z0 87 (by omega), m0 89 (by omega) (by omega) (by omega) (by omega)]
  · rw [z0 87 (by omega), m0 89 (by omega) (by omega) (by omega) (by omega)]
  · rw [z0 87 (by omega), m0 89 (by omega) (by omega) (by omega) (by omega)]
  · rw [z0 87 (by omega)]
    exact ⟨Int.le_refl _, Int.le_refl _⟩
end P98zw
