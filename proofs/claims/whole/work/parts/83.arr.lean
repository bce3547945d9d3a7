/-! Arrangements: gone through one by one, or by the bits of what is used (by program, wip/whole/gen83.py) -/
abbrev Acc : Type := Int × Nat × (Nat → Int)
def updR (row : Nat → Int) (t s : Nat) : Nat → Int := fun k => if k = t then (s : Int) else row k
section P83
variable (n : Nat) (ok : Nat → Nat → Bool) (w : Nat → Nat → Int)
/-- a Sunday that a town could have and none ahead of it has -/
def elg (t u s : Nat) : Bool := ok t s && !(u.testBit s)
/-- how many ways m more towns can be served -/
def waysN : Nat → Nat → Nat
  | 0, _ => 1
  | m + 1, u => ((List.range n).map fun s => if elg ok (n - (m + 1)) u s then waysN m (u ||| 2 ^ s) else 0).sum
def omx : Option Int → Option Int → Option Int
  | none, y => y
  | some x, none => some x
  | some x, some y => some (if x < y then y else x)
theorem omx_sn (x : Int) (y : Option Int) : omx (some x) y ≠ none := by
  cases y <;> intro z <;> cases z
def bestL (f : Nat → Option Int) : List Nat → Option Int
  | [] => none
  | s :: l => omx (f s) (bestL f l)
def pickL (f : Nat → Option Int) (b : Option Int) : List Nat → Nat
  | [] => 0
  | s :: l => if f s = b then s else pickL f b l
/-- the most that m more towns bring together; 0 if there is no way -/
def bestN : Nat → Nat → Int
  | 0, _ => 0
  | m + 1, u => (bestL (fun s => if elg ok (n - (m + 1)) u s && decide (waysN n ok m (u ||| 2 ^ s) ≠ 0) then some (w (n - (m + 1)) s + bestN m (u ||| 2 ^ s)) else none) (List.range n)).getD 0
def thrN (m u s : Nat) : Option Int := if elg ok (n - (m + 1)) u s && decide (waysN n ok m (u ||| 2 ^ s) ≠ 0) then some (w (n - (m + 1)) s + bestN n ok w m (u ||| 2 ^ s)) else none
def pickN (m u : Nat) : Nat := pickL (thrN n ok w m u) (bestL (thrN n ok w m u) (List.range n)) (List.range n)
def fillN : Nat → Nat → (Nat → Int) → Nat → Int
  | 0, _, row => row
  | m + 1, u, row => fillN m (u ||| 2 ^ (pickN n ok w m u)) (updR row (n - (m + 1)) (pickN n ok w m u))
/-- all rows gone through -/
def goN : Nat → Nat → (Nat → Int) → Int → Acc → Acc
  | 0, _, row, σ, acc => if σ ≤ acc.1 then (acc.1, acc.2.1 + 1, acc.2.2) else (σ, acc.2.1 + 1, row)
  | m + 1, u, row, σ, acc => (List.range n).foldl (fun a s => if elg ok (n - (m + 1)) u s then goN m (u ||| 2 ^ s) (updR row (n - (m + 1)) s) (σ + w (n - (m + 1)) s) a else a) acc
def resN (σ : Int) (acc : Acc) (c : Nat) (b : Int) (r : Nat → Int) : Acc := if c = 0 then acc else if σ + b ≤ acc.1 then (acc.1, acc.2.1 + c, acc.2.2) else (σ + b, acc.2.1 + c, r)
def sumW (m u : Nat) (l : List Nat) : Nat := (l.map fun s => if elg ok (n - (m + 1)) u s then waysN n ok m (u ||| 2 ^ s) else 0).sum
theorem waysN_s (m u : Nat) : waysN n ok (m + 1) u = sumW n ok m u (List.range n) := rfl
theorem bestN_s (m u : Nat) : bestN n ok w (m + 1) u = (bestL (thrN n ok w m u) (List.range n)).getD 0 := rfl
theorem sumW_c (m u s : Nat) (l : List Nat) : sumW n ok m u (s :: l) = (if elg ok (n - (m + 1)) u s then waysN n ok m (u ||| 2 ^ s) else 0) + sumW n ok m u l := by
  unfold sumW
  rw [List.map_cons, List.sum_cons]
theorem best_none (m u : Nat) : ∀ l : List Nat, bestL (thrN n ok w m u) l = none ↔ sumW n ok m u l = 0
  | [] => ⟨fun _ => rfl, fun _ => rfl⟩
  | s :: l => by
    have ih := best_none m u l
    rw [sumW_c]
    show omx (thrN n ok w m u s) (bestL (thrN n ok w m u) l) = none ↔ _
    unfold thrN
    by_cases c : elg ok (n - (m + 1)) u s = true
    · by_cases c2 : waysN n ok m (u ||| 2 ^ s) = 0
      · rw [c, if_neg (by simp [c2]), if_pos rfl, c2, Nat.zero_add]
        exact ih
      · rw [c, if_pos (by simp [c2]), if_pos rfl]
        exact ⟨fun z => absurd z (omx_sn _ _), fun z => (by omega)⟩
    · rw [if_neg (by simp [c]), if_neg c, Nat.zero_add]
      exact ih
/-- gone through, or reckoned by the most of the rest: the same -/
theorem goN_ok : ∀ (m u : Nat) (row : Nat → Int) (σ : Int) (acc : Acc), goN n ok w m u row σ acc = resN σ acc (waysN n ok m u) (bestN n ok w m u) (fillN n ok w m u row) := by
  intro m
  induction m with
  | zero =>
    intro u row σ acc
    show (if σ ≤ acc.1 then (acc.1, acc.2.1 + 1, acc.2.2) else (σ, acc.2.1 + 1, row)) = (if (1 : Nat) = 0 then acc else if σ + 0 ≤ acc.1 then (acc.1, acc.2.1 + 1, acc.2.2) else (σ + 0, acc.2.1 + 1, row))
    rw [Int.add_zero]
    exact (if_neg (by decide)).symm
  | succ m ih =>
    intro u row σ acc
    have key : ∀ (l : List Nat) (acc : Acc), l.foldl (fun a s => if elg ok (n - (m + 1)) u s then goN n ok w m (u ||| 2 ^ s) (updR row (n - (m + 1)) s) (σ + w (n - (m + 1)) s) a else a) acc = resN σ acc (sumW n ok m u l) ((bestL (thrN n ok w m u) l).getD 0) (fillN n ok w m (u ||| 2 ^ (pickL (thrN n ok w m u) (bestL (thrN n ok w m u) l) l)) (updR row (n - (m + 1)) (pickL (thrN n ok w m u) (bestL (thrN n ok w m u) l) l))) := by
      intro l
      induction l with
      | nil => intro acc; rfl
      | cons s l ihl =>
        intro acc
        rw [List.foldl_cons, sumW_c]
        have hn := best_none n ok w m u l
        by_cases c : elg ok (n - (m + 1)) u s = true
        · rw [if_pos c, if_pos c, ih]
          by_cases c2 : waysN n ok m (u ||| 2 ^ s) = 0
          · have e1 : thrN n ok w m u s = none := by
              unfold thrN
              rw [c, if_neg (by simp [c2])]
            have e2 : bestL (thrN n ok w m u) (s :: l) = bestL (thrN n ok w m u) l := by
              show omx (thrN n ok w m u s) _ = _
              rw [e1]
              rfl
            have e3 : resN (σ + w (n - (m + 1)) s) acc (waysN n ok m (u ||| 2 ^ s)) (bestN n ok w m (u ||| 2 ^ s)) (fillN n ok w m (u ||| 2 ^ s) (updR row (n - (m + 1)) s)) = acc := if_pos c2
            rw [e3, ihl, c2, Nat.zero_add, e2]
            by_cases c3 : sumW n ok m u l = 0
            · unfold resN
              rw [if_pos c3, if_pos c3]
            · have e4 : bestL (thrN n ok w m u) l ≠ none := fun z => c3 (hn.mp z)
              have e5 : pickL (thrN n ok w m u) (bestL (thrN n ok w m u) l) (s :: l) = pickL (thrN n ok w m u) (bestL (thrN n ok w m u) l) l := if_neg fun z => e4 (by rw [← z, e1])
              rw [e5]
          · have e1 : thrN n ok w m u s = some (w (n - (m + 1)) s + bestN n ok w m (u ||| 2 ^ s)) := by
              unfold thrN
              rw [c, if_pos (by simp [c2])]
            generalize hx : w (n - (m + 1)) s + bestN n ok w m (u ||| 2 ^ s) = x at e1
            have hx2 : σ + w (n - (m + 1)) s + bestN n ok w m (u ||| 2 ^ s) = σ + x := by omega
            have inner : resN (σ + w (n - (m + 1)) s) acc (waysN n ok m (u ||| 2 ^ s)) (bestN n ok w m (u ||| 2 ^ s)) (fillN n ok w m (u ||| 2 ^ s) (updR row (n - (m + 1)) s)) = if σ + x ≤ acc.1 then (acc.1, acc.2.1 + waysN n ok m (u ||| 2 ^ s), acc.2.2) else (σ + x, acc.2.1 + waysN n ok m (u ||| 2 ^ s), fillN n ok w m (u ||| 2 ^ s) (updR row (n - (m + 1)) s)) := by
              unfold resN
              rw [if_neg c2, hx2]
            rw [ihl, inner]
            by_cases c3 : sumW n ok m u l = 0
            · have e2 := hn.mpr c3
              have e3 : bestL (thrN n ok w m u) (s :: l) = some x := by
                show omx (thrN n ok w m u s) (bestL (thrN n ok w m u) l) = _
                rw [e1, e2]
                rfl
              have e4 : pickL (thrN n ok w m u) (some x) (s :: l) = s := if_pos e1
              rw [e3, e4, c3]
              have e5 : ∀ (a : Acc) (b : Int) (r : Nat → Int), resN σ a 0 b r = a := fun a b r => if_pos rfl
              rw [e5]
              unfold resN
              rw [if_neg (show ¬ (waysN n ok m (u ||| 2 ^ s) + 0 = 0) by omega)]
              rfl
            · obtain ⟨y, e2⟩ : ∃ y, bestL (thrN n ok w m u) l = some y := by
                cases e : bestL (thrN n ok w m u) l with
                | none => exact absurd (hn.mp e) c3
                | some y => exact ⟨y, rfl⟩
              have e3 : bestL (thrN n ok w m u) (s :: l) = some (if x < y then y else x) := by
                show omx (thrN n ok w m u s) (bestL (thrN n ok w m u) l) = _
                rw [e1, e2]
                rfl
              have rl : ∀ (a : Acc) (r : Nat → Int), resN σ a (sumW n ok m u l) ((some y : Option Int).getD 0) r = if σ + y ≤ a.1 then (a.1, a.2.1 + sumW n ok m u l, a.2.2) else (σ + y, a.2.1 + sumW n ok m u l, r) := fun a r => if_neg c3
              have rr : ∀ (z : Int) (r : Nat → Int), resN σ acc (waysN n ok m (u ||| 2 ^ s) + sumW n ok m u l) ((some z : Option Int).getD 0) r = if σ + z ≤ acc.1 then (acc.1, acc.2.1 + (waysN n ok m (u ||| 2 ^ s) + sumW n ok m u l), acc.2.2) else (σ + z, acc.2.1 + (waysN n ok m (u ||| 2 ^ s) + sumW n ok m u l), r) := fun z r => if_neg (by omega)
              rw [e3, e2, rl]
              by_cases c4 : x < y
              · have e5 : pickL (thrN n ok w m u) (some y) (s :: l) = pickL (thrN n ok w m u) (some y) l := if_neg fun z => by rw [e1] at z; cases z; omega
                rw [if_pos c4, e5, rr]
                by_cases c5 : σ + x ≤ acc.1
                · rw [if_pos c5]
                  try dsimp only
                  by_cases c6 : σ + y ≤ acc.1
                  · rw [if_pos c6, if_pos c6, Nat.add_assoc]
                  · rw [if_neg c6, if_neg c6, Nat.add_assoc]
                · rw [if_neg c5]
                  try dsimp only
                  rw [if_neg (show ¬ (σ + y ≤ σ + x) by omega), if_neg (show ¬ (σ + y ≤ acc.1) by omega), Nat.add_assoc]
              · have e5 : pickL (thrN n ok w m u) (some x) (s :: l) = s := if_pos e1
                rw [if_neg c4, e5, rr]
                by_cases c5 : σ + x ≤ acc.1
                · rw [if_pos c5, if_pos c5]
                  try dsimp only
                  rw [if_pos (show σ + y ≤ acc.1 by omega), Nat.add_assoc]
                · rw [if_neg c5, if_neg c5]
                  try dsimp only
                  rw [if_pos (show σ + y ≤ σ + x by omega), Nat.add_assoc]
        · have e1 : thrN n ok w m u s = none := by
            unfold thrN
            rw [if_neg (by simp [c])]
          have e2 : bestL (thrN n ok w m u) (s :: l) = bestL (thrN n ok w m u) l := by
            show omx (thrN n ok w m u s) _ = _
            rw [e1]
            rfl
          rw [if_neg c, if_neg c, Nat.zero_add, ihl, e2]
          by_cases c3 : sumW n ok m u l = 0
          · unfold resN
            rw [if_pos c3, if_pos c3]
          · have e4 : bestL (thrN n ok w m u) l ≠ none := fun z => c3 (hn.mp z)
            have e5 : pickL (thrN n ok w m u) (bestL (thrN n ok w m u) l) (s :: l) = pickL (thrN n ok w m u) (bestL (thrN n ok w m u) l) l := if_neg fun z => e4 (by rw [← z, e1])
            rw [e5]
    exact key (List.range n) acc
end P83
