/-! What steps mean: a SUM or a TEST is what it tells of the words (by program, wip/whole/gen48.py) -/
abbrev Mng : Type := (Nat → Int) → Int
theorem comb_01 {c : Int} (hc : 7 ≤ c ∧ c ≤ 9) (l r : Int) : comb c l r = 0 ∨ comb c l r = 1 := by
  have h1 : combV c l r = 0 ∨ combV c l r = 1 := by
    unfold combV
    rw [if_neg (by omega), if_neg (by omega), if_neg (by omega), if_neg (by omega), if_neg (by omega)]
    by_cases z : c = 7
    · rw [if_pos z]
      split
      · exact Or.inr rfl
      · exact Or.inl rfl
    · rw [if_neg z]
      by_cases y : c = 8
      · rw [if_pos y]
        split
        · exact Or.inl rfl
        · exact Or.inr rfl
      · rw [if_neg y]
        split
        · exact Or.inr rfl
        · exact Or.inl rfl
  unfold comb
  rw [if_neg (by omega), if_pos (by omega)]
  exact h1
section P48
variable {S W ws : Nat → Int} {nw z : Nat}
theorem rkL_s (k i : Nat) (stk : List Int) : rkL S W ws nw z (k + 1) i stk = (if i < z then
      if S i = 0 then (if stk.length < 64 then rkL S W ws nw z k (i + 1) (W i :: stk) else BRK)
      else if S i = 1 then (if stk.length < 64 then (if W i < (nw : Int) then rkL S W ws nw z k (i + 1) (ws (W i).toNat :: stk) else BRK) else BRK)
      else match stk with
        | [] => BRK
        | a :: t =>
          if S i < 10 then (match t with
            | [] => BRK
            | l :: t2 => if comb (S i) l a = BRK then BRK else rkL S W ws nw z k (i + 1) (comb (S i) l a :: t2))
          else if S i = 10 then rkL S W ws nw z k (i + 1) (wr (1 - a) :: t)
          else if S i = 11 then (if a = 0 then rkL S W ws nw z k (max (i + 1) (W i).toNat) (a :: t) else rkL S W ws nw z k (i + 1) t)
          else if S i = 12 then (if a = 1 then rkL S W ws nw z k (max (i + 1) (W i).toNat) (a :: t) else rkL S W ws nw z k (i + 1) t)
          else BRK
    else bot stk) := rfl
theorem rk_fuel : ∀ (k i : Nat) (stk : List Int), z - i ≤ k → rkL S W ws nw z k i stk = rkL S W ws nw z (k + 1) i stk := by
  intro k
  induction k with
  | zero =>
    intro i stk hk
    have e : rkL S W ws nw z 1 i stk = bot stk := by
      unfold rkL
      rw [if_neg (by omega)]
    rw [e]
    rfl
  | succ k ih =>
    intro i stk hk
    by_cases hi : i < z
    · have e1 := fun s => ih (i + 1) s (by omega)
      have e2 := fun s => ih (max (i + 1) (W i).toNat) s (by omega)
      rw [rkL_s, rkL_s (k := k + 1)]
      simp only [e1, e2]
    · rw [rkL_s, rkL_s (k := k + 1), if_neg hi, if_neg hi]
theorem rk_can (k i : Nat) (stk : List Int) (hk : z - i ≤ k) : rkL S W ws nw z k i stk = rkL S W ws nw z (z - i) i stk := by
  obtain ⟨j, rfl⟩ : ∃ j, k = z - i + j := ⟨k - (z - i), by omega⟩
  clear hk
  induction j with
  | zero => rfl
  | succ j ih =>
    rw [show z - i + (j + 1) = (z - i + j) + 1 from rfl, ← rk_fuel _ _ _ (by omega)]
    exact ih
end P48
/-- the words are no BRK; w of them -/
def wsOk (ws : Nat → Int) (nw : Nat) : Prop := ∀ k, k < nw → ws k ≠ BRK
/-- the steps from p up to q, with n places on the stack, mean f -/
def sem (nw : Nat) (S W : Nat → Int) (p q n : Nat) (f : Mng) : Prop := p < q ∧ ∀ (S' W' : Nat → Int), (∀ i, p ≤ i → i < q → S' i = S i ∧ W' i = W i) → ∀ (ws : Nat → Int) (z : Nat) (stk : List Int), q ≤ z → stk.length + n ≤ 64 → wsOk ws nw → rkL S' W' ws nw z (z - p) p stk = if f ws = BRK then BRK else rkL S' W' ws nw z (z - q) q (f ws :: stk)
theorem sem.fr {nw : Nat} {S W S' W' : Nat → Int} {p q n : Nat} {f : Mng} (h : sem nw S W p q n f) (e : ∀ i, p ≤ i → i < q → S' i = S i ∧ W' i = W i) : sem nw S' W' p q n f :=
  ⟨h.1, fun S2 W2 e2 => h.2 S2 W2 fun i h1 h2 => ⟨(e2 i h1 h2).1.trans (e i h1 h2).1, (e2 i h1 h2).2.trans (e i h1 h2).2⟩⟩
def binF (op : Int) (f g : Mng) : Mng := fun ws => if f ws = BRK then BRK else if g ws = BRK then BRK else comb op (f ws) (g ws)
def negF (f : Mng) : Mng := fun ws => if f ws = BRK then BRK else 1 - f ws
def conF (f g : Mng) : Mng := fun ws => if f ws = BRK then BRK else if f ws = 0 then 0 else g ws
def disF (f g : Mng) : Mng := fun ws => if f ws = BRK then BRK else if f ws = 1 then 1 else g ws
/-- it tells yes or no, if it is not BROKEN -/
def isTst (f : Mng) : Prop := ∀ ws, f ws = BRK ∨ f ws = 0 ∨ f ws = 1
theorem isTst_bin {op : Int} (h : 7 ≤ op ∧ op ≤ 9) (f g : Mng) : isTst (binF op f g) := by
  intro ws
  unfold binF
  split
  · exact Or.inl rfl
  · split
    · exact Or.inl rfl
    · exact Or.inr (comb_01 h _ _)
theorem isTst_neg {f : Mng} (h : isTst f) : isTst (negF f) := by
  intro ws
  unfold negF
  rcases h ws with z | z | z
  · rw [if_pos z]; exact Or.inl rfl
  · rw [if_neg (by rw [z]; decide), z]; exact Or.inr (Or.inr rfl)
  · rw [if_neg (by rw [z]; decide), z]; exact Or.inr (Or.inl rfl)
theorem isTst_con {f g : Mng} (h : isTst g) : isTst (conF f g) := by
  intro ws
  unfold conF
  split
  · exact Or.inl rfl
  · split
    · exact Or.inr (Or.inl rfl)
    · exact h ws
theorem isTst_dis {f g : Mng} (h : isTst g) : isTst (disF f g) := by
  intro ws
  unfold disF
  split
  · exact Or.inl rfl
  · split
    · exact Or.inr (Or.inr rfl)
    · exact h ws
section P48b
variable {nw : Nat} {S W : Nat → Int} {p q m n n1 n2 : Nat} {f g : Mng}
theorem sem_num {v : Int} (h1 : S p = 0) (h2 : W p = v) (h3 : v ≠ BRK) : sem nw S W p (p + 1) 1 (fun _ => v) := by
  refine ⟨by omega, fun S' W' e ws z stk hq hs hw => ?_⟩
  obtain ⟨e1, e2⟩ := e p (by omega) (by omega)
  rw [show z - p = (z - (p + 1)) + 1 by omega, rkL_s, if_pos (by omega), if_pos (by rw [e1, h1]), if_pos (by omega), e2, h2, if_neg h3]
theorem sem_wd {k : Nat} (h1 : S p = 1) (h2 : W p = k) (h3 : k < nw) : sem nw S W p (p + 1) 1 (fun ws => ws k) := by
  refine ⟨by omega, fun S' W' e ws z stk hq hs hw => ?_⟩
  obtain ⟨e1, e2⟩ := e p (by omega) (by omega)
  rw [show z - p = (z - (p + 1)) + 1 by omega, rkL_s, if_pos (by omega), if_neg (by rw [e1, h1]; decide), if_pos (by rw [e1, h1]), if_pos (by omega), e2, h2, if_pos (by omega), Int.toNat_natCast, if_neg (hw k h3)]
theorem sem_bin {op : Int} (hf : sem nw S W p m n1 f) (hg : sem nw S W m q n2 g) (h1 : S q = op) (h2 : 2 ≤ op ∧ op ≤ 9) (h3 : 1 ≤ n1) : sem nw S W p (q + 1) (n1 + n2) (binF op f g) := by
  obtain ⟨a1, a2⟩ := hf
  obtain ⟨b1, b2⟩ := hg
  refine ⟨by omega, fun S' W' e ws z stk hq hs hw => ?_⟩
  have e1 := (e q (by omega) (by omega)).1
  rw [a2 S' W' (fun i i1 i2 => e i i1 (by omega)) ws z stk (by omega) (by omega) hw]
  unfold binF
  by_cases c1 : f ws = BRK
  · rw [if_pos c1, if_pos c1, if_pos rfl]
  · rw [if_neg c1, if_neg c1, b2 S' W' (fun i i1 i2 => e i (by omega) (by omega)) ws z (f ws :: stk) (by omega) (by rw [List.length_cons]; omega) hw]
    by_cases c2 : g ws = BRK
    · rw [if_pos c2, if_pos c2, if_pos rfl]
    · rw [if_neg c2, if_neg c2, show z - q = (z - (q + 1)) + 1 by omega, rkL_s, if_pos (by omega), e1, h1, if_neg (by omega), if_neg (by omega)]
      dsimp only
      rw [if_pos (by omega)]
theorem sem_neg (hf : sem nw S W p q n f) (ht : isTst f) (h1 : S q = 10) : sem nw S W p (q + 1) n (negF f) := by
  obtain ⟨a1, a2⟩ := hf
  refine ⟨by omega, fun S' W' e ws z stk hq hs hw => ?_⟩
  have e1 := (e q (by omega) (by omega)).1
  rw [a2 S' W' (fun i i1 i2 => e i i1 (by omega)) ws z stk (by omega) (by omega) hw]
  unfold negF
  by_cases c1 : f ws = BRK
  · rw [if_pos c1, if_pos c1, if_pos rfl]
  · have hv : f ws = 0 ∨ f ws = 1 := (ht ws).resolve_left c1
    have hn : ¬ (1 - f ws = BRK) := by
      have hb : BRK = -2147483648 := rfl
      omega
    rw [if_neg c1, if_neg c1, if_neg hn, show z - q = (z - (q + 1)) + 1 by omega, rkL_s, if_pos (by omega), e1, h1, if_neg (by decide), if_neg (by decide)]
    dsimp only
    rw [if_neg (by decide), if_pos rfl, wr_id (by omega) (by omega)]
theorem sem_con (hf : sem nw S W p m n1 f) (ht : isTst f) (hg : sem nw S W (m + 1) q n2 g) (h1 : S m = 11) (h2 : W m = q) : sem nw S W p q (n1 + n2) (conF f g) := by
  obtain ⟨a1, a2⟩ := hf
  obtain ⟨b1, b2⟩ := hg
  refine ⟨by omega, fun S' W' e ws z stk hq hs hw => ?_⟩
  obtain ⟨e1, e2⟩ := e m (by omega) (by omega)
  rw [a2 S' W' (fun i i1 i2 => e i i1 (by omega)) ws z stk (by omega) (by omega) hw]
  unfold conF
  by_cases c1 : f ws = BRK
  · rw [if_pos c1, if_pos c1, if_pos rfl]
  · rw [if_neg c1, if_neg c1, show z - m = (z - (m + 1)) + 1 by omega, rkL_s, if_pos (by omega), e1, h1, if_neg (by decide), if_neg (by decide)]
    dsimp only
    rw [if_neg (by decide), if_neg (by decide), if_pos rfl]
    by_cases c2 : f ws = 0
    · rw [if_pos c2, if_pos c2, if_neg (by decide), e2, h2, Int.toNat_natCast, show max (m + 1) q = q by omega, rk_can _ _ _ (by omega), c2]
    · rw [if_neg c2, if_neg c2, b2 S' W' (fun i i1 i2 => e i (by omega) i2) ws z stk (by omega) (by omega) hw]
theorem sem_dis (hf : sem nw S W p m n1 f) (ht : isTst f) (hg : sem nw S W (m + 1) q n2 g) (h1 : S m = 12) (h2 : W m = q) : sem nw S W p q (n1 + n2) (disF f g) := by
  obtain ⟨a1, a2⟩ := hf
  obtain ⟨b1, b2⟩ := hg
  refine ⟨by omega, fun S' W' e ws z stk hq hs hw => ?_⟩
  obtain ⟨e1, e2⟩ := e m (by omega) (by omega)
  rw [a2 S' W' (fun i i1 i2 => e i i1 (by omega)) ws z stk (by omega) (by omega) hw]
  unfold disF
  by_cases c1 : f ws = BRK
  · rw [if_pos c1, if_pos c1, if_pos rfl]
  · rw [if_neg c1, if_neg c1, show z - m = (z - (m + 1)) + 1 by omega, rkL_s, if_pos (by omega), e1, h1, if_neg (by decide), if_neg (by decide)]
    dsimp only
    rw [if_neg (by decide), if_neg (by decide), if_neg (by decide), if_pos rfl]
    by_cases c2 : f ws = 1
    · rw [if_pos c2, if_pos c2, if_neg (by decide), e2, h2, Int.toNat_natCast, show max (m + 1) q = q by omega, rk_can _ _ _ (by omega), c2]
    · rw [if_neg c2, if_neg c2, b2 S' W' (fun i i1 i2 => e i (by omega) i2) ws z stk (by omega) (by omega) hw]
/-- what a whole place tells -/
theorem sem_all {ws : Nat → Int} (hf : sem nw S W p q n f) (hn : n ≤ 64) (hw : wsOk ws nw) (hb : ∀ v, v ≠ BRK → bot [v] = v) : rkL S W ws nw q (q - p) p [] = f ws := by
  rw [hf.2 S W (fun i _ _ => ⟨rfl, rfl⟩) ws q [] (Nat.le_refl _) (by rw [List.length_nil]; omega) hw]
  by_cases c : f ws = BRK
  · rw [if_pos c, c]
  · rw [if_neg c, Nat.sub_self]
    exact hb _ c
end P48b
