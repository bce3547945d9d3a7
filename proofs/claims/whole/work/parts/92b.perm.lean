/-! Numbers of arrangements (by program, wip/whole/gen92b.py) -/
def cntB (f : Nat → Bool) : Nat → Nat → Nat
  | 0, _ => 0
  | k + 1, i => (if f i = true then 1 else 0) + cntB f k (i + 1)
/-- an arrangement of n -/
def PermN (n : Nat) (a : Nat → Nat) : Prop := (∀ i, i < n → a i < n) ∧ (∀ i j, i < n → j < n → a i = a j → i = j) ∧ ∀ s, s < n → ∃ i, i < n ∧ a i = s
def lehC (n : Nat) (a : Nat → Nat) (t : Nat) : Nat := cntB (fun j => decide (a j < a t)) (n - (t + 1)) (t + 1)
def numP (n : Nat) (a : Nat → Nat) : Nat → Nat
  | 0 => 0
  | t + 1 => numP n a t * (n - t) + lehC n a t
def numA (n : Nat) (a : Nat → Nat) : Nat := numP n a n
def decS (n m c : Nat) (a : Nat → Nat) : Nat → Nat := fun j => if j = m then c else if m < j ∧ j < n then (if a j < c then a j else a j + 1) else a j
def decL (n : Nat) : Nat → Nat → (Nat → Nat) → Nat → Nat
  | 0, _, a => a
  | m + 1, num, a => decL n m (num / (n - m)) (decS n m (num % (n - m)) a)
def ffP (n : Nat) : Nat → Nat
  | 0 => 1
  | t + 1 => ffP n t * (n - t)
section P92b
variable {n : Nat} {a b : Nat → Nat} {f g : Nat → Bool}
theorem cntB_le (f : Nat → Bool) : ∀ k i, cntB f k i ≤ k
  | 0, _ => Nat.le_refl _
  | k + 1, i => by
    have := cntB_le f k (i + 1)
    show (if f i = true then 1 else 0) + cntB f k (i + 1) ≤ k + 1
    split <;> omega
theorem cntB_mono : ∀ k i, (∀ j, i ≤ j → j < i + k → f j = true → g j = true) → cntB f k i ≤ cntB g k i
  | 0, _, _ => Nat.le_refl _
  | k + 1, i, h => by
    have := cntB_mono k (i + 1) fun j j1 j2 => h j (by omega) (by omega)
    have h0 := h i (Nat.le_refl _) (by omega)
    show (if f i = true then 1 else 0) + cntB f k (i + 1) ≤ (if g i = true then 1 else 0) + cntB g k (i + 1)
    by_cases c : f i = true
    · rw [if_pos c, if_pos (h0 c)]
      omega
    · rw [if_neg c]
      split <;> omega
theorem cntB_lt : ∀ k i, (∀ j, i ≤ j → j < i + k → f j = true → g j = true) → ∀ x, i ≤ x → x < i + k → g x = true → f x = false → cntB f k i < cntB g k i
  | 0, i, _, x, x1, x2, _, _ => by omega
  | k + 1, i, h, x, x1, x2, gx, fx => by
    have h0 := h i (Nat.le_refl _) (by omega)
    show (if f i = true then 1 else 0) + cntB f k (i + 1) < (if g i = true then 1 else 0) + cntB g k (i + 1)
    by_cases c : x = i
    · subst c
      have := cntB_mono (f := f) (g := g) k (x + 1) fun j j1 j2 => h j (by omega) (by omega)
      rw [if_pos gx, if_neg (by rw [fx]; decide)]
      omega
    · have := cntB_lt k (i + 1) (fun j j1 j2 => h j (by omega) (by omega)) x (by omega) (by omega) gx fx
      by_cases c2 : f i = true
      · rw [if_pos c2, if_pos (h0 c2)]
        omega
      · rw [if_neg c2]
        split <;> omega
theorem cntB_eq : ∀ k i, (∀ j, i ≤ j → j < i + k → f j = g j) → cntB f k i = cntB g k i
  | 0, _, _ => rfl
  | k + 1, i, h => by
    show (if f i = true then 1 else 0) + cntB f k (i + 1) = (if g i = true then 1 else 0) + cntB g k (i + 1)
    rw [h i (Nat.le_refl _) (by omega), cntB_eq k (i + 1) fun j j1 j2 => h j (by omega) (by omega)]
theorem cntB_0 : ∀ k i, (∀ j, i ≤ j → j < i + k → f j = false) → cntB f k i = 0
  | 0, _, _ => rfl
  | k + 1, i, h => by
    show (if f i = true then 1 else 0) + cntB f k (i + 1) = 0
    rw [if_neg (by rw [h i (Nat.le_refl _) (by omega)]; decide), cntB_0 k (i + 1) fun j j1 j2 => h j (by omega) (by omega)]
theorem cntB_1 : ∀ k i x, i ≤ x → x < i + k → (∀ j, i ≤ j → j < i + k → (f j = true ↔ j = x)) → cntB f k i = 1
  | 0, i, x, x1, x2, _ => by omega
  | k + 1, i, x, x1, x2, h => by
    show (if f i = true then 1 else 0) + cntB f k (i + 1) = 1
    by_cases c : i = x
    · rw [if_pos ((h i (Nat.le_refl _) (by omega)).2 c), cntB_0 k (i + 1) fun j j1 j2 => by
        have := h j (by omega) (by omega)
        cases e : f j with
        | false => rfl
        | true => exact absurd (this.1 e) (by omega)]
    · rw [if_neg (fun z => c ((h i (Nat.le_refl _) (by omega)).1 z)), cntB_1 k (i + 1) x (by omega) (by omega) fun j j1 j2 => h j (by omega) (by omega)]
theorem cntB_or (h : ∀ j, f j = true → g j = false) : ∀ k i, cntB (fun j => f j || g j) k i = cntB f k i + cntB g k i
  | 0, _ => rfl
  | k + 1, i => by
    show (if (f i || g i) = true then 1 else 0) + cntB (fun j => f j || g j) k (i + 1) = (if f i = true then 1 else 0) + cntB f k (i + 1) + ((if g i = true then 1 else 0) + cntB g k (i + 1))
    have ih := cntB_or h k (i + 1)
    have h0 := h i
    cases e1 : f i with
    | true =>
      rw [h0 e1]
      simp
      omega
    | false =>
      cases e2 : g i with
      | true =>
        simp
        omega
      | false =>
        simp
        omega
/-- as many as v lie below v -/
theorem perm_cnt (p : PermN n a) : ∀ v, v ≤ n → cntB (fun j => decide (a j < v)) n 0 = v
  | 0, _ => cntB_0 n 0 fun j _ _ => by simp
  | v + 1, hv => by
    obtain ⟨x, x1, x2⟩ := p.2.2 v (by omega)
    have e : cntB (fun j => decide (a j < v + 1)) n 0 = cntB (fun j => decide (a j < v) || decide (a j = v)) n 0 := cntB_eq n 0 fun j _ _ => by
      by_cases c : a j < v
      · simp [c, show a j < v + 1 by omega]
      · by_cases c2 : a j = v
        · simp [c2]
        · simp [c, c2, show ¬ a j < v + 1 by omega]
    rw [e, cntB_or (f := fun j => decide (a j < v)) (g := fun j => decide (a j = v)) (fun j z => by
      have : a j < v := by simpa using z
      simp [show ¬ a j = v by omega]), perm_cnt p v (by omega), cntB_1 n 0 x (by omega) (by omega) fun j _ j2 => by
      constructor
      · intro z
        have : a j = v := by simpa using z
        exact p.2.1 j x (by omega) x1 (by omega)
      · intro z
        rw [z]
        simp [x2]]
theorem lehC_lt {t : Nat} (ht : t < n) : lehC n a t < n - t := by
  have := cntB_le (fun j => decide (a j < a t)) (n - (t + 1)) (t + 1)
  unfold lehC
  omega
/-- the place of a j among those from m on -/
def stdA (n : Nat) (a : Nat → Nat) (m j : Nat) : Nat := cntB (fun k => decide (a k < a j)) (n - m) m
theorem stdA_s {m j : Nat} (hm : m < n) : stdA n a m j = (if a m < a j then 1 else 0) + stdA n a (m + 1) j := by
  unfold stdA
  rw [show n - m = (n - (m + 1)) + 1 by omega]
  show (if decide (a m < a j) = true then 1 else 0) + cntB _ (n - (m + 1)) (m + 1) = _
  by_cases c : a m < a j
  · rw [if_pos (by simpa using c), if_pos c]
  · rw [if_neg (by simpa using c), if_neg c]
theorem stdA_c {m j : Nat} (p : PermN n a) (hm : m < j) (hj : j < n) : stdA n a (m + 1) j < lehC n a m ↔ a j < a m := by
  unfold stdA lehC
  constructor
  · intro z
    have : ¬ a m < a j := fun q => by
      have := cntB_mono (f := fun k => decide (a k < a m)) (g := fun k => decide (a k < a j)) (n - (m + 1)) (m + 1) fun k _ _ w => by
        have : a k < a m := by simpa using w
        simp
        omega
      omega
    have ne : a j ≠ a m := fun q => by
      have := p.2.1 j m hj (by omega) q
      omega
    omega
  · intro z
    exact cntB_lt (n - (m + 1)) (m + 1) (fun k _ _ w => by
      have : a k < a j := by simpa using w
      simp
      omega) j (by omega) (by omega) (by simpa using z) (by simp)
theorem dec_num (p : PermN n a) : ∀ (m : Nat) (b : Nat → Nat), m ≤ n → (∀ j, m ≤ j → j < n → b j = stdA n a m j) → ∀ j, j < n → decL n m (numP n a m) b j = a j
  | 0, b, _, hb, j, hj => by
    show b j = a j
    rw [hb j (Nat.zero_le _) hj]
    exact perm_cnt p (a j) (Nat.le_of_lt (p.1 j hj))
  | m + 1, b, hm, hb, j, hj => by
    have hc := lehC_lt (a := a) (n := n) (t := m) (by omega)
    have e1 : numP n a (m + 1) / (n - m) = numP n a m := by
      show (numP n a m * (n - m) + lehC n a m) / (n - m) = numP n a m
      rw [Nat.mul_comm, Nat.mul_add_div (by omega), Nat.div_eq_of_lt hc, Nat.add_zero]
    have e2 : numP n a (m + 1) % (n - m) = lehC n a m := by
      show (numP n a m * (n - m) + lehC n a m) % (n - m) = lehC n a m
      rw [Nat.mul_comm, Nat.mul_add_mod, Nat.mod_eq_of_lt hc]
    show decL n m (numP n a (m + 1) / (n - m)) (decS n m (numP n a (m + 1) % (n - m)) b) j = a j
    rw [e1, e2]
    refine dec_num p m _ (by omega) (fun i i1 i2 => ?_) j hj
    unfold decS
    by_cases c : i = m
    · rw [if_pos c, c, stdA_s (by omega), if_neg (by omega), Nat.zero_add]
      rfl
    · rw [if_neg c, if_pos (by omega), hb i (by omega) i2, stdA_s (m := m) (by omega)]
      have s := stdA_c (m := m) p (show m < i by omega) i2
      have ne : a i ≠ a m := fun q => c (p.2.1 i m i2 (by omega) q)
      by_cases d : a i < a m
      · rw [if_pos (s.2 d), if_neg (by omega), Nat.zero_add]
      · rw [if_neg (fun z => d (s.1 z)), if_pos (by omega), Nat.add_comm]
theorem numA_dec (p : PermN n a) (b : Nat → Nat) : ∀ j, j < n → decL n n (numA n a) b j = a j := dec_num p n b (Nat.le_refl _) fun j j1 j2 => by omega
theorem numA_inj (pa : PermN n a) (pb : PermN n b) (e : numA n a = numA n b) : ∀ j, j < n → a j = b j := fun j hj => by
  rw [← numA_dec pa (fun _ => 0) j hj, e, numA_dec pb (fun _ => 0) j hj]
theorem numP_lt : ∀ t, t ≤ n → numP n a t < ffP n t
  | 0, _ => by
    show 0 < 1
    omega
  | t + 1, ht => by
    have ih := numP_lt t (by omega)
    have hc := lehC_lt (a := a) (n := n) (t := t) (by omega)
    show numP n a t * (n - t) + lehC n a t < ffP n t * (n - t)
    have h1 : (numP n a t + 1) * (n - t) ≤ ffP n t * (n - t) := Nat.mul_le_mul_right _ ih
    rw [Nat.add_mul, Nat.one_mul] at h1
    omega
theorem ff_ok : ((List.range 8).all fun n => (List.range (n + 1)).all fun t => decide (ffP n t ≤ 5040)) = true := by decide +kernel
theorem ffP_le (hn : n ≤ 7) {t : Nat} (ht : t ≤ n) : ffP n t ≤ 5040 := by
  have h := ff_ok
  rw [List.all_eq_true] at h
  have h1 := h n (by simp; omega)
  rw [List.all_eq_true] at h1
  have h2 := h1 t (by simp; omega)
  simpa using h2
theorem numA_lt (hn : n ≤ 7) : numA n a < 5040 := Nat.lt_of_lt_of_le (numP_lt n (Nat.le_refl _)) (ffP_le hn (Nat.le_refl _))
theorem numP_id : ∀ t, t ≤ n → numP n (fun i => i) t = 0
  | 0, _ => rfl
  | t + 1, ht => by
    show numP n (fun i => i) t * (n - t) + lehC n (fun i => i) t = 0
    rw [numP_id t (by omega), Nat.zero_mul, Nat.zero_add]
    exact cntB_0 _ _ fun j j1 _ => by
      simp
      omega
theorem perm_id (n : Nat) : PermN n (fun i => i) := ⟨fun i hi => hi, fun i j _ _ e => e, fun s hs => ⟨s, hs, rfl⟩⟩
theorem numA_0 (p : PermN n a) : numA n a = 0 ↔ ∀ j, j < n → a j = j := by
  have e := numP_id (n := n) n (Nat.le_refl _)
  constructor
  · intro z
    exact numA_inj p (perm_id n) (z.trans e.symm)
  · intro z
    have : ∀ t, t ≤ n → numP n a t = numP n (fun i => i) t := by
      intro t
      induction t with
      | zero => intro _; rfl
      | succ t ih =>
        intro ht
        show numP n a t * (n - t) + lehC n a t = numP n (fun i => i) t * (n - t) + lehC n (fun i => i) t
        rw [ih (by omega)]
        congr 1
        exact cntB_eq _ _ fun j j1 j2 => by rw [z j (by omega), z t (by omega)]
    exact (this n (Nat.le_refl _)).trans e
end P92b
