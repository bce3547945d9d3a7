/-! The search for the way home (by program, wip/whole/gen92c.py) -/
/-- how many are found; which arrangements, from which each comes, by which exchange -/
abbrev BSt : Type := Nat × (Nat → Nat → Nat) × (Nat → Nat) × (Nat → Nat)
def swA (a : Nat → Nat) (x y : Nat) : Nat → Nat := fun i => if i = x then a y else if i = y then a x else a i
/-- which number is among those of the first t -/
def inB (N : Nat → Nat) (v : Nat) : Nat → Bool
  | 0 => false
  | t + 1 => decide (N t = v) || inB N v t
def exO (snd : Nat → Nat → Nat → Bool) (a : Nat → Nat) (x y : Nat) : Bool := snd (a x) x y && snd (a y) y x
/-- the numbers of those found -/
def nmB (n : Nat) (S : BSt) : Nat → Nat := fun i => numA n (S.2.1 i)
def addB (S : BSt) (a : Nat → Nat) (p e : Nat) : BSt := (S.1 + 1, (fun i => if i = S.1 then a else S.2.1 i), (fun i => if i = S.1 then p else S.2.2.1 i), fun i => if i = S.1 then e else S.2.2.2 i)
/-- the towns x and y exchange, from the arrangement hd on -/
def stepB (n : Nat) (snd : Nat → Nat → Nat → Bool) (hd x y : Nat) (S : BSt) : BSt :=
  if exO snd (S.2.1 hd) x y = true ∧ inB (nmB n S) (numA n (swA (S.2.1 hd) x y)) S.1 = false then addB S (swA (S.2.1 hd) x y) hd (7 * x + y) else S
def rowB (n : Nat) (snd : Nat → Nat → Nat → Bool) (hd x : Nat) : Nat → Nat → BSt → BSt
  | 0, _, S => S
  | k + 1, y, S => rowB n snd hd x k (y + 1) (stepB n snd hd x y S)
def allB (n : Nat) (snd : Nat → Nat → Nat → Bool) (hd : Nat) : Nat → Nat → BSt → BSt
  | 0, _, S => S
  | k + 1, x, S => allB n snd hd k (x + 1) (rowB n snd hd x (n - (x + 1)) (x + 1) S)
def goB (n : Nat) (snd : Nat → Nat → Nat → Bool) : Nat → Nat → BSt → BSt
  | 0, _, S => S
  | f + 1, hd, S => if hd < S.1 ∧ inB (nmB n S) 0 S.1 = false then goB n snd f (hd + 1) (allB n snd hd n 0 S) else S
/-- all that stands is well -/
def BOk (n : Nat) (S : BSt) : Prop := 0 < S.1 ∧ (∀ i, i < S.1 → PermN n (S.2.1 i)) ∧ (∀ i j, i < S.1 → j < S.1 → nmB n S i = nmB n S j → i = j) ∧ ∀ i, 0 < i → i < S.1 → S.2.2.1 i < i ∧ ∃ x y, x < y ∧ y < n ∧ S.2.2.2 i = 7 * x + y
section P92c
variable {n : Nat} {snd : Nat → Nat → Nat → Bool} {S : BSt} {a : Nat → Nat} {N : Nat → Nat}
theorem inB_iff {v : Nat} : ∀ t, inB N v t = true ↔ ∃ i, i < t ∧ N i = v
  | 0 => ⟨fun z => (by cases z), fun z => (by obtain ⟨i, h, _⟩ := z; omega)⟩
  | t + 1 => by
    show (decide (N t = v) || inB N v t) = true ↔ _
    rw [Bool.or_eq_true, decide_eq_true_iff, inB_iff t]
    constructor
    · intro z
      rcases z with z | ⟨i, h1, h2⟩
      · exact ⟨t, by omega, z⟩
      · exact ⟨i, by omega, h2⟩
    · intro ⟨i, h1, h2⟩
      by_cases c : i = t
      · exact Or.inl (by rw [← c]; exact h2)
      · exact Or.inr ⟨i, by omega, h2⟩
theorem inB_not {v t : Nat} : inB N v t = false ↔ ∀ i, i < t → N i ≠ v := by
  constructor
  · intro z i hi e
    have := (inB_iff t).2 ⟨i, hi, e⟩
    rw [z] at this
    cases this
  · intro z
    cases e : inB N v t with
    | false => rfl
    | true =>
      obtain ⟨i, h1, h2⟩ := (inB_iff t).1 e
      exact absurd h2 (z i h1)
theorem inB_cg {N' : Nat → Nat} {v : Nat} : ∀ t, (∀ i, i < t → N' i = N i) → inB N' v t = inB N v t
  | 0, _ => rfl
  | t + 1, h => by
    show (decide (N' t = v) || inB N' v t) = (decide (N t = v) || inB N v t)
    rw [h t (by omega), inB_cg t fun i hi => h i (by omega)]
/-- of M numbers t are taken -/
theorem inB_cnt {M : Nat} : ∀ t, (∀ i, i < t → N i < M) → (∀ i j, i < t → j < t → N i = N j → i = j) → cntB (fun v => inB N v t) M 0 = t
  | 0, _, _ => cntB_0 M 0 fun _ _ _ => rfl
  | t + 1, h1, h2 => by
    have ih := inB_cnt (M := M) t (fun i hi => h1 i (by omega)) fun i j hi hj e => h2 i j (by omega) (by omega) e
    show cntB (fun v => decide (N t = v) || inB N v t) M 0 = t + 1
    rw [cntB_or (f := fun v => decide (N t = v)) (g := fun v => inB N v t) (fun v z => by
      have e : N t = v := by simpa using z
      refine inB_not.2 fun i hi e2 => ?_
      have := h2 i t (by omega) (by omega) (by rw [e2, e])
      omega), ih, cntB_1 M 0 (N t) (Nat.zero_le _) (by have := h1 t (by omega); omega) fun v _ _ => by
      constructor
      · intro z
        have : N t = v := by simpa using z
        exact this.symm
      · intro z
        simp [z]]
    omega
theorem cntB_full {f : Nat → Bool} : ∀ k i, cntB f k i = k → ∀ j, i ≤ j → j < i + k → f j = true
  | 0, i, _, j, j1, j2 => by omega
  | k + 1, i, h, j, j1, j2 => by
    have h' : (if f i = true then 1 else 0) + cntB f k (i + 1) = k + 1 := h
    have := cntB_le f k (i + 1)
    by_cases c : f i = true
    · rw [if_pos c] at h'
      by_cases c2 : j = i
      · rw [c2]
        exact c
      · exact cntB_full k (i + 1) (by omega) j (by omega) (by omega)
    · rw [if_neg c] at h'
      omega
theorem swA_perm (p : PermN n a) {x y : Nat} (hx : x < n) (hy : y < n) : PermN n (swA a x y) := by
  obtain ⟨p1, p2, p3⟩ := p
  have key : ∀ i, i < n → swA a x y i = a (if i = x then y else if i = y then x else i) := fun i _ => by
    unfold swA
    by_cases c : i = x
    · rw [if_pos c, if_pos c]
    · rw [if_neg c, if_neg c]
      by_cases c2 : i = y
      · rw [if_pos c2, if_pos c2]
      · rw [if_neg c2, if_neg c2]
  refine ⟨fun i hi => ?_, fun i j hi hj e => ?_, fun s hs => ?_⟩
  · rw [key i hi]
    exact p1 _ (by (repeat' split) <;> omega)
  · rw [key i hi, key j hj] at e
    have := p2 _ _ (by (repeat' split) <;> omega) (by (repeat' split) <;> omega) e
    (repeat' split at this) <;> omega
  · obtain ⟨i, i1, i2⟩ := p3 s hs
    refine ⟨if i = x then y else if i = y then x else i, by (repeat' split) <;> omega, ?_⟩
    rw [key _ (by (repeat' split) <;> omega), ← i2]
    congr 1
    (repeat' split) <;> omega
theorem BOk.le (b : BOk n S) (hn : n ≤ 7) : S.1 ≤ 5040 := by
  have := inB_cnt (N := nmB n S) (M := 5040) S.1 (fun i hi => numA_lt hn) b.2.2.1
  have h2 := cntB_le (fun v => inB (nmB n S) v S.1) 5040 0
  omega
theorem BOk.full (b : BOk n S) (hn : n ≤ 7) (e : S.1 = 5040) (a : Nat → Nat) : inB (nmB n S) (numA n a) S.1 = true := by
  have h1 := inB_cnt (N := nmB n S) (M := 5040) S.1 (fun i hi => numA_lt hn) b.2.2.1
  exact cntB_full 5040 0 (by rw [h1, e]) (numA n a) (Nat.zero_le _) (by have := numA_lt (a := a) hn; omega)
theorem BOk.step (b : BOk n S) {hd x y : Nat} (hh : hd < S.1) (hx : x < y) (hy : y < n) : BOk n (stepB n snd hd x y S) ∧ S.1 ≤ (stepB n snd hd x y S).1 ∧ (stepB n snd hd x y S).1 ≤ S.1 + 1 ∧ (∀ i, i < S.1 → (stepB n snd hd x y S).2.1 i = S.2.1 i ∧ (stepB n snd hd x y S).2.2.1 i = S.2.2.1 i ∧ (stepB n snd hd x y S).2.2.2 i = S.2.2.2 i) := by
  unfold stepB
  by_cases c : exO snd (S.2.1 hd) x y = true ∧ inB (nmB n S) (numA n (swA (S.2.1 hd) x y)) S.1 = false
  case neg =>
    rw [if_neg c]
    exact ⟨b, by omega, by omega, fun _ _ => ⟨rfl, rfl, rfl⟩⟩
  rw [if_pos c]
  obtain ⟨b0, b1, b2, b3⟩ := b
  have c2 := inB_not.1 c.2
  have hA : ∀ i, (addB S (swA (S.2.1 hd) x y) hd (7 * x + y)).2.1 i = if i = S.1 then swA (S.2.1 hd) x y else S.2.1 i := fun _ => rfl
  have hN : ∀ i, nmB n (addB S (swA (S.2.1 hd) x y) hd (7 * x + y)) i = if i = S.1 then numA n (swA (S.2.1 hd) x y) else nmB n S i := fun i => by
    unfold nmB
    rw [hA]
    split <;> rfl
  refine ⟨⟨Nat.succ_pos _, fun i hi => ?_, fun i j hi hj e => ?_, fun i i0 hi => ?_⟩, Nat.le_succ _, Nat.le_refl _, fun i hi => ⟨if_neg (by omega), if_neg (by omega), if_neg (by omega)⟩⟩
  · have hi' : i < S.1 + 1 := hi
    rw [hA]
    by_cases z : i = S.1
    · rw [if_pos z]
      exact swA_perm (b1 hd hh) (by omega) hy
    · rw [if_neg z]
      exact b1 i (by omega)
  · have hi' : i < S.1 + 1 := hi
    have hj' : j < S.1 + 1 := hj
    rw [hN, hN] at e
    by_cases z : i = S.1
    · by_cases w : j = S.1
      · omega
      · rw [if_pos z, if_neg w] at e
        exact absurd e.symm (c2 j (by omega))
    · by_cases w : j = S.1
      · rw [if_neg z, if_pos w] at e
        exact absurd e (c2 i (by omega))
      · rw [if_neg z, if_neg w] at e
        exact b2 i j (by omega) (by omega) e
  · have hi' : i < S.1 + 1 := hi
    by_cases z : i = S.1
    · refine ⟨?_, x, y, hx, hy, if_pos z⟩
      show (if i = S.1 then hd else S.2.2.1 i) < i
      rw [if_pos z]
      omega
    · obtain ⟨q1, q2⟩ := b3 i i0 (by omega)
      refine ⟨?_, ?_⟩
      · show (if i = S.1 then hd else S.2.2.1 i) < i
        rw [if_neg z]
        exact q1
      · show ∃ x' y', x' < y' ∧ y' < n ∧ (if i = S.1 then 7 * x + y else S.2.2.2 i) = 7 * x' + y'
        rw [if_neg z]
        exact q2
end P92c
