/-! What the search tells (by program, wip/whole/gen92f.py) -/
def st0B (a : Nat → Nat) : BSt := (1, fun _ => a, fun _ => 0, fun _ => 0)
/-- all that is found from a on -/
def bfsB (n : Nat) (snd : Nat → Nat → Nat → Bool) (a : Nat → Nat) : BSt := goB n snd 5040 0 (st0B a)
def depB (S : BSt) : Nat → Nat → Nat
  | 0, _ => 0
  | f + 1, i => if i = 0 then 0 else 1 + depB S f (S.2.2.1 i)
def ancB (S : BSt) : Nat → Nat → Nat
  | 0, i => i
  | k + 1, i => ancB S k (S.2.2.1 i)
def idxB (N : Nat → Nat) (v : Nat) : Nat → Nat
  | 0 => 0
  | t + 1 => if N t = v then t else idxB N v t
/-- to which towns a Sunday could be sent from a place, as bits -/
def rowF (n : Nat) (snd : Nat → Nat → Nat → Bool) (j : Nat) : Int := if j / 7 < n ∧ j % 7 < n then ((mkB (snd (j / 7) (j % 7)) n : Nat) : Int) else 0
/-- an arrangement of n, the rest each their own -/
def ArN (n : Nat) (a : Nat → Nat) : Prop := n ≤ 7 ∧ PermN n a ∧ ∀ j, n ≤ j → a j = j
/-- the fields F and the rows Q and P keep what was found -/
def HmA (n : Nat) (B : BSt) (F Q P : Nat → Int) : Prop := (inB (nmB n B) 0 B.1 = false ∧ F 0 = -1) ∨ (inB (nmB n B) 0 B.1 = true ∧ F 0 = (depB B B.1 (idxB (nmB n B) 0 B.1) : Int) ∧ (F 0 = 0 ∨ (F 1 = (idxB (nmB n B) 0 B.1 : Int) ∧ ∀ i, i < B.1 → Q i = ((packA (B.2.1 i) + 2097152 * B.2.2.2 i : Nat) : Int) ∧ P i = if i = 0 then -1 else (B.2.2.1 i : Int))))
section P92f
variable {n : Nat} {snd snd' : Nat → Nat → Nat → Bool} {S : BSt} {a b : Nat → Nat}
/-- of towns alone -/
def EqS (n : Nat) (snd snd' : Nat → Nat → Nat → Bool) : Prop := ∀ s p t, s < n → p < n → t < n → snd s p t = snd' s p t
theorem rowF_inj (hn : n ≤ 7) (h : ∀ j, j < 49 → rowF n snd j = rowF n snd' j) : EqS n snd snd' := fun s p t hs hp ht => by
  have e := h (7 * s + p) (by omega)
  unfold rowF at e
  rw [show (7 * s + p) / 7 = s by omega, show (7 * s + p) % 7 = p by omega, if_pos ⟨hs, hp⟩, if_pos ⟨hs, hp⟩] at e
  have e2 : mkB (snd s p) n = mkB (snd' s p) n := by omega
  have b1 := mkB_bit (snd s p) n t
  have b2 := mkB_bit (snd' s p) n t
  rw [e2, b2] at b1
  simpa [ht] using b1.symm
theorem step_cg (e : EqS n snd snd') (b : BOk n S) {hd x y : Nat} (hh : hd < S.1) (hx : x < n) (hy : y < n) : stepB n snd hd x y S = stepB n snd' hd x y S := by
  have p := b.2.1 hd hh
  have : exO snd (S.2.1 hd) x y = exO snd' (S.2.1 hd) x y := by
    unfold exO
    rw [e _ _ _ (p.1 x hx) hx hy, e _ _ _ (p.1 y hy) hy hx]
  unfold stepB
  rw [this]
theorem row_cg (e : EqS n snd snd') {hd x : Nat} : ∀ (k y : Nat) (S : BSt), y + k = n → x < y → BOk n S → hd < S.1 → rowB n snd hd x k y S = rowB n snd' hd x k y S ∧ BOk n (rowB n snd hd x k y S) ∧ S.1 ≤ (rowB n snd hd x k y S).1
  | 0, _, _, _, _, b, _ => ⟨rfl, b, Nat.le_refl _⟩
  | k + 1, y, S, hy, hx, b, hh => by
    have s := b.step (snd := snd) hh hx (show y < n by omega)
    have r := row_cg e (hd := hd) (x := x) k (y + 1) (stepB n snd hd x y S) (by omega) (by omega) s.1 (by omega)
    show rowB n snd hd x k (y + 1) (stepB n snd hd x y S) = rowB n snd' hd x k (y + 1) (stepB n snd' hd x y S) ∧ BOk n (rowB n snd hd x k (y + 1) (stepB n snd hd x y S)) ∧ S.1 ≤ (rowB n snd hd x k (y + 1) (stepB n snd hd x y S)).1
    rw [← step_cg e b hh (show x < n by omega) (show y < n by omega)]
    exact ⟨r.1, r.2.1, by omega⟩
theorem all_cg (e : EqS n snd snd') {hd : Nat} : ∀ (k x : Nat) (S : BSt), x + k = n → BOk n S → hd < S.1 → allB n snd hd k x S = allB n snd' hd k x S ∧ BOk n (allB n snd hd k x S)
  | 0, _, _, _, b, _ => ⟨rfl, b⟩
  | k + 1, x, S, hx, b, hh => by
    have r := row_cg e (hd := hd) (x := x) (n - (x + 1)) (x + 1) S (by omega) (by omega) b hh
    have q := all_cg e (hd := hd) k (x + 1) (rowB n snd hd x (n - (x + 1)) (x + 1) S) (by omega) r.2.1 (by omega)
    show allB n snd hd k (x + 1) (rowB n snd hd x (n - (x + 1)) (x + 1) S) = allB n snd' hd k (x + 1) (rowB n snd' hd x (n - (x + 1)) (x + 1) S) ∧ BOk n (allB n snd hd k (x + 1) (rowB n snd hd x (n - (x + 1)) (x + 1) S))
    rw [← r.1]
    exact q
theorem go_cg (e : EqS n snd snd') : ∀ (q hd : Nat) (S : BSt), BOk n S → goB n snd q hd S = goB n snd' q hd S
  | 0, _, _, _ => rfl
  | q + 1, hd, S, b => by
    show (if hd < S.1 ∧ inB (nmB n S) 0 S.1 = false then goB n snd q (hd + 1) (allB n snd hd n 0 S) else S) = (if hd < S.1 ∧ inB (nmB n S) 0 S.1 = false then goB n snd' q (hd + 1) (allB n snd' hd n 0 S) else S)
    by_cases c : hd < S.1 ∧ inB (nmB n S) 0 S.1 = false
    · rw [if_pos c, if_pos c]
      have r := all_cg e (hd := hd) n 0 S (by omega) b c.1
      rw [← r.1]
      exact go_cg e q (hd + 1) _ r.2
    · rw [if_neg c, if_neg c]
theorem bfs_cg (e : EqS n snd snd') (p : PermN n a) : bfsB n snd a = bfsB n snd' a := go_cg e 5040 0 (st0B a) ⟨Nat.one_pos, fun _ _ => p, fun i j hi hj _ => by
  have h1 : i < 1 := hi
  have h2 : j < 1 := hj
  omega, fun i i0 hi => by
  have h1 : i < 1 := hi
  omega⟩
end P92f
