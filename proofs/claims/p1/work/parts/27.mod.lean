/-! The reference's shape; its small methods (by program, wip/whole/gen27.py) -/
section P27a
variable {d : Nat} {h : IH} {I J : Nat → Nat → Int} {a b t i n m : Nat} {x y j : Int} {o : Option Nat}
theorem ygR0 {k : Option Nat → Option IR} (e : hT h a = t) : xgR (st h I J) a t i k = k (hR h a i) := if_pos e
theorem yaI0 {k : Int → Option IR} (e : hT h a = 0) (e1 : 0 ≤ j) (e2 : j < (hL h a : Int)) : xaI (st h I J) a j k = k (I a j.toNat) := if_pos ⟨e, e1, e2⟩
theorem yaB0 {k : Int → Option IR} (e : hT h a = 2 ∨ hT h a = 3) (e1 : 0 ≤ j) (e2 : j < (hL h a : Int)) : xaB (st h I J) a j k = k (I a j.toNat) := if_pos ⟨e, e1, e2⟩
theorem yaJ0 {k : Int → Option IR} (e : hT h a = 1) (e1 : 0 ≤ j) (e2 : j < (hL h a : Int)) : xaJ (st h I J) a j k = k (J a j.toNat) := if_pos ⟨e, e1, e2⟩
theorem yaR0 {k : Option Nat → Option IR} (e : hT h a = 4 ∨ hT h a = 5) (e1 : 0 ≤ j) (e2 : j < (hL h a : Int)) : xaR (st h I J) a j k = k (hR h a j.toNat) := if_pos ⟨e, e1, e2⟩
theorem ysI0 {k : IH → Option IR} (e : hT h a = 0) (e3 : 3 ≤ a) (e1 : 0 ≤ j) (e2 : j < (hL h a : Int)) : xsI (st h I J) a j x k = k (st h (up I a j.toNat x) J) := if_pos ⟨⟨e, e3⟩, e1, e2⟩
theorem ysB20 {k : IH → Option IR} (e : hT h a = 2) (e3 : 3 ≤ a) (e1 : 0 ≤ j) (e2 : j < (hL h a : Int)) : xsB (st h I J) a j x k = k (st h (up I a j.toNat (n8 x)) J) := if_pos ⟨⟨e, e3⟩, e1, e2⟩
theorem ysB30 {k : IH → Option IR} (e : hT h a = 3) (e3 : 3 ≤ a) (e1 : 0 ≤ j) (e2 : j < (hL h a : Int)) : xsB (st h I J) a j x k = k (st h (up I a j.toNat (n1 x)) J) := xsB3_ok (h := st h I J) e e3 e1 e2
theorem ysJ0 {k : IH → Option IR} (e : hT h a = 1) (e3 : 3 ≤ a) (e1 : 0 ≤ j) (e2 : j < (hL h a : Int)) : xsJ (st h I J) a j x k = k (st h I (up J a j.toNat x)) := if_pos ⟨⟨e, e3⟩, e1, e2⟩
theorem n1_1 : n1 1 = 1 := by decide
theorem n1_0 : n1 0 = 0 := by decide
end P27a
/-- the reference stands at m: the object, then its rows -/
def ShM (h : IH) (m : Nat) : Prop := 3 ≤ m ∧ hT h m = 22 ∧ (hR h m 1 = some (m + 1) ∧ hR h m 2 = some (m + 2) ∧ hR h m 3 = some (m + 3) ∧ hR h m 4 = some (m + 4) ∧ hR h m 5 = some (m + 5) ∧ hR h m 7 = some (m + 6) ∧ hR h m 11 = some (m + 7) ∧ hR h m 12 = some (m + 8) ∧ hR h m 15 = some (m + 9) ∧ hR h m 16 = some (m + 10) ∧ hR h m 17 = some (m + 11) ∧ hR h m 26 = some (m + 12) ∧ hR h m 29 = some (m + 13) ∧ hR h m 30 = some (m + 14) ∧ hR h m 32 = some (m + 15) ∧ hR h m 33 = some (m + 16) ∧ hR h m 34 = some (m + 17) ∧ hR h m 35 = some (m + 18) ∧ hR h m 36 = some (m + 19) ∧ hR h m 39 = some (m + 20) ∧ hR h m 40 = some (m + 21) ∧ hR h m 41 = some (m + 22) ∧ hR h m 42 = some (m + 23) ∧ hR h m 43 = some (m + 24) ∧ hR h m 44 = some (m + 25) ∧ hR h m 45 = some (m + 26) ∧ hR h m 46 = some (m + 27) ∧ hR h m 53 = some (m + 28) ∧ hR h m 54 = some (m + 29)) ∧ (hT h (m + 1) = 0 ∧ hT h (m + 2) = 0 ∧ hT h (m + 3) = 0 ∧ hT h (m + 4) = 3 ∧ hT h (m + 5) = 0 ∧ hT h (m + 6) = 2 ∧ hT h (m + 7) = 2 ∧ hT h (m + 8) = 0 ∧ hT h (m + 9) = 0 ∧ hT h (m + 10) = 0 ∧ hT h (m + 11) = 0 ∧ hT h (m + 12) = 0 ∧ hT h (m + 13) = 0 ∧ hT h (m + 14) = 0 ∧ hT h (m + 15) = 0 ∧ hT h (m + 16) = 0 ∧ hT h (m + 17) = 0 ∧ hT h (m + 18) = 0 ∧ hT h (m + 19) = 3 ∧ hT h (m + 20) = 0 ∧ hT h (m + 21) = 0 ∧ hT h (m + 22) = 0 ∧ hT h (m + 23) = 0 ∧ hT h (m + 24) = 3 ∧ hT h (m + 25) = 0 ∧ hT h (m + 26) = 0 ∧ hT h (m + 27) = 1 ∧ hT h (m + 28) = 1 ∧ hT h (m + 29) = 0) ∧ (hL h (m + 1) = 7 ∧ hL h (m + 2) = 5794 ∧ hL h (m + 3) = 11588 ∧ hL h (m + 4) = 2 ∧ hL h (m + 5) = 226 ∧ hL h (m + 6) = 135 ∧ hL h (m + 7) = 400 ∧ hL h (m + 8) = 5 ∧ hL h (m + 9) = 401 ∧ hL h (m + 10) = 401 ∧ hL h (m + 11) = 401 ∧ hL h (m + 12) = 9 ∧ hL h (m + 13) = 1824 ∧ hL h (m + 14) = 1824 ∧ hL h (m + 15) = 7 ∧ hL h (m + 16) = 7 ∧ hL h (m + 17) = 7 ∧ hL h (m + 18) = 49 ∧ hL h (m + 19) = 49 ∧ hL h (m + 20) = 5040 ∧ hL h (m + 21) = 5040 ∧ hL h (m + 22) = 5040 ∧ hL h (m + 23) = 7 ∧ hL h (m + 24) = 343 ∧ hL h (m + 25) = 7 ∧ hL h (m + 26) = 7 ∧ hL h (m + 27) = 21 ∧ hL h (m + 28) = 3 ∧ hL h (m + 29) = 113)
section P27
variable {d : Nat} {h : IH} {I J : Nat → Nat → Int} {m : Nat}
theorem s_lies (h : IH) (v lo hi : Int) : rn (d + 1) 147 [iI v, iI lo, iI hi] h = some (oI (if lo ≤ v ∧ v ≤ hi then 1 else 0), h) := by
  rw [r_M_lies, e_M_lies]
  split
  · rw [xZ_0, if_neg (by omega)]
  · split
    · rw [xZ_1, if_pos (by omega)]
    · rw [xZ_0, if_neg (by omega)]
theorem s_lesser (h : IH) (x y : Int) : rn (d + 1) 148 [iI x, iI y] h = some (oI (if x < y then x else y), h) := by
  rw [r_M_lesser, e_M_lesser]
  split <;> rfl
theorem s_greater (h : IH) (x y : Int) : rn (d + 1) 149 [iI x, iI y] h = some (oI (if x ≤ y then y else x), h) := by
  rw [r_M_greater, e_M_greater]
  split <;> rfl
theorem s_pairAt (h : IH) {x y : Int} (hx : 0 ≤ x ∧ x < 300000000) (hy : 0 ≤ y ∧ y < 7) : rn (d + 1) 154 [iI x, iI y] h = some (oI (7 * x + y), h) := by
  rw [r_M_pairAt, e_M_pairAt]
  rw [wr_id (x := 7 * x) (by omega) (by omega), wr_id (by omega) (by omega)]
theorem s_isIn (h : IH) (x k : Int) : rn (d + 1) 153 [iI x, iI k] h = some (oI (if iand (ishr x k) 1 = 1 then 1 else 0), h) := by
  rw [r_M_isIn, e_M_isIn]
  split <;> rfl
theorem s_good (hs : ShM h m) (v : Int) : rn (d + 1) 151 [iR (some m), iI v] (st h I J) = some (oI v, st h (up I m 0 0) J) := by
  obtain ⟨h3, ht, ⟨-, -, -, -, -, -, -, -, -, -, -, -, -, -, -, -, -, -, -, -, -, -, -, -, -, -, -, -, -⟩, ⟨-, -, -, -, -, -, -, -, -, -, -, -, -, -, -, -, -, -, -, -, -, -, -, -, -, -, -, -, -⟩, ⟨-, -, -, -, -, -, -, -, -, -, -, -, -, -, -, -, -, -, -, -, -, -, -, -, -, -, -, -, -⟩⟩ := id hs
  rw [r_M_good, e_M_good, ypI ht h3]
theorem s_settled (hs : ShM h m) (v : Int) : rn (d + 2) 152 [iR (some m), iI v] (st h I J) = some (oI v, st h (up (up I m 31 0) m 0 0) J) := by
  obtain ⟨h3, ht, ⟨-, -, -, -, -, -, -, -, -, -, -, -, -, -, -, -, -, -, -, -, -, -, -, -, -, -, -, -, -⟩, ⟨-, -, -, -, -, -, -, -, -, -, -, -, -, -, -, -, -, -, -, -, -, -, -, -, -, -, -, -, -⟩, ⟨-, -, -, -, -, -, -, -, -, -, -, -, -, -, -, -, -, -, -, -, -, -, -, -, -, -, -, -, -⟩⟩ := id hs
  rw [r_M_settled, e_M_settled, ypI ht h3, yck ht, s_good hs, kI_o]
theorem s_refuses (hs : ShM h m) {k : Int} (hk : -6 ≤ k ∧ k ≤ 0) (hr : -2147483648 ≤ I (m + 1) (-k).toNat ∧ I (m + 1) (-k).toNat < 2147483647) : rn (d + 1) 150 [iR (some m), iI k] (st h I J) = some (oI k, st h (up (up I m 0 k) (m + 1) (-k).toNat (I (m + 1) (-k).toNat + 1)) J) := by
  obtain ⟨h3, ht, ⟨r1, -, -, -, -, -, -, -, -, -, -, -, -, -, -, -, -, -, -, -, -, -, -, -, -, -, -, -, -⟩, ⟨t1, -, -, -, -, -, -, -, -, -, -, -, -, -, -, -, -, -, -, -, -, -, -, -, -, -, -, -, -⟩, ⟨l1, -, -, -, -, -, -, -, -, -, -, -, -, -, -, -, -, -, -, -, -, -, -, -, -, -, -, -, -⟩⟩ := id hs
  rw [r_M_refuses, e_M_refuses]
  simp (disch := first | assumption | omega | (simp only [l1]; omega)) only [ht, r1, t1, l1, xB_s, yck, ygI, ygR0, ypI, yaI0, yaB0, yaJ0, yaR0, ysI0, ysB20, ysB30, ysJ0, kI_o, kJ_o, kR_o, kV_o, xZ_0, xZ_1, wr_id, wl_id, Int.toNat_natCast, Int.zero_add, h3, up_na (show m + 1 ≠ m by omega)]
theorem s_townMany (hs : ShM h m) : rn (d + 1) 160 [iR (some m)] (st h I J) = some (oI (I (m + 2) 183), st h I J) := by
  obtain ⟨h3, ht, ⟨-, r2, -, -, -, -, -, -, -, -, -, -, -, -, -, -, -, -, -, -, -, -, -, -, -, -, -, -, -⟩, ⟨-, t2, -, -, -, -, -, -, -, -, -, -, -, -, -, -, -, -, -, -, -, -, -, -, -, -, -, -, -⟩, ⟨-, l2, -, -, -, -, -, -, -, -, -, -, -, -, -, -, -, -, -, -, -, -, -, -, -, -, -, -, -⟩⟩ := id hs
  rw [r_M_townMany, e_M_townMany]
  simp (disch := first | assumption | omega | (simp only [l2]; omega)) only [ht, r2, t2, l2, xB_s, yck, ygI, ygR0, ypI, yaI0, yaB0, yaJ0, yaR0, ysI0, ysB20, ysB30, ysJ0, kI_o, kJ_o, kR_o, kV_o, xZ_0, xZ_1, wr_id, wl_id, Int.toNat_natCast, Int.zero_add]
  rfl
theorem s_isTownM (hs : ShM h m) (x : Int) (hn : 0 ≤ I (m + 2) 183 ∧ I (m + 2) 183 ≤ 7) : rn (d + 2) 161 [iR (some m), iI x] (st h I J) = some (oI (if 0 ≤ x ∧ x < I (m + 2) 183 then 1 else 0), st h I J) := by
  obtain ⟨h3, ht, ⟨-, -, -, -, -, -, -, -, -, -, -, -, -, -, -, -, -, -, -, -, -, -, -, -, -, -, -, -, -⟩, ⟨-, -, -, -, -, -, -, -, -, -, -, -, -, -, -, -, -, -, -, -, -, -, -, -, -, -, -, -, -⟩, ⟨-, -, -, -, -, -, -, -, -, -, -, -, -, -, -, -, -, -, -, -, -, -, -, -, -, -, -, -, -⟩⟩ := id hs
  rw [r_M_isTown, e_M_isTown, yck ht, s_townMany hs, kI_o, wr_id (by omega) (by omega), s_lies, kI_o]
  by_cases hc : 0 ≤ x ∧ x < I (m + 2) 183
  · rw [if_pos hc, if_pos (by omega), xZ_1]
  · rw [if_neg hc, if_neg (by omega), xZ_0]
theorem s_areTwo (hs : ShM h m) (x y : Int) (hn : 0 ≤ I (m + 2) 183 ∧ I (m + 2) 183 ≤ 7) : rn (d + 3) 162 [iR (some m), iI x, iI y] (st h I J) = some (oI (if (0 ≤ x ∧ x < I (m + 2) 183) ∧ (0 ≤ y ∧ y < I (m + 2) 183) ∧ x ≠ y then 1 else 0), st h I J) := by
  obtain ⟨h3, ht, ⟨-, -, -, -, -, -, -, -, -, -, -, -, -, -, -, -, -, -, -, -, -, -, -, -, -, -, -, -, -⟩, ⟨-, -, -, -, -, -, -, -, -, -, -, -, -, -, -, -, -, -, -, -, -, -, -, -, -, -, -, -, -⟩, ⟨-, -, -, -, -, -, -, -, -, -, -, -, -, -, -, -, -, -, -, -, -, -, -, -, -, -, -, -, -⟩⟩ := id hs
  rw [r_M_areTwo, e_M_areTwo, yck ht, s_isTownM hs x hn, kI_o]
  by_cases h1 : 0 ≤ x ∧ x < I (m + 2) 183
  · rw [if_pos h1, if_neg (by omega), yck ht, s_isTownM hs y hn, kI_o]
    by_cases h2 : 0 ≤ y ∧ y < I (m + 2) 183
    · rw [if_pos h2, if_neg (by omega)]
      by_cases h4 : x = y
      · rw [if_pos h4, if_neg (fun z => z.2.2 h4), xZ_0]
      · rw [if_neg h4, if_pos ⟨h1, h2, h4⟩, xZ_1]
    · rw [if_neg h2, if_pos rfl, if_neg (fun z => h2 z.2.1), xZ_0]
  · rw [if_neg h1, if_pos rfl, if_neg (fun z => h1 z.1), xZ_0]
/-- where the place t on holds s first, of k places -/
def firstAt (f : Nat → Int) (s : Int) : Nat → Nat → Nat
  | t, 0 => t
  | t, k + 1 => if f t = s then t else firstAt f s (t + 1) k
theorem firstAt_s (f : Nat → Int) (s : Int) (t k : Nat) : firstAt f s t (k + 1) = if f t = s then t else firstAt f s (t + 1) k := rfl
theorem s_whereIs_l (hs : ShM h m) {s : Int} : ∀ (k t : Nat), t + k ≤ 5793 → (∃ u, t ≤ u ∧ u < t + k ∧ I (m + 2) u = s) → ∀ n, k ≤ n → lp d 163 n 2 [some (iR (some m)), some (iI s), some (iI (t : Nat))] [] (st h I J) = some (oI (firstAt (I (m + 2)) s t k : Nat), st h I J) := by
  obtain ⟨h3, ht, ⟨-, r2, -, -, -, -, -, -, -, -, -, -, -, -, -, -, -, -, -, -, -, -, -, -, -, -, -, -, -⟩, ⟨-, t2, -, -, -, -, -, -, -, -, -, -, -, -, -, -, -, -, -, -, -, -, -, -, -, -, -, -, -⟩, ⟨-, l2, -, -, -, -, -, -, -, -, -, -, -, -, -, -, -, -, -, -, -, -, -, -, -, -, -, -, -⟩⟩ := id hs
  intro k
  induction k with
  | zero => intro t _ ⟨u, h1, h2, _⟩; omega
  | succ k ih =>
    intro t ht5 ⟨u, h1, h2, hu⟩ n hn
    obtain ⟨n, rfl⟩ : ∃ q, n = q + 1 := ⟨n - 1, by omega⟩
    rw [e_M_whereIs_2, firstAt_s]
    simp (disch := first | assumption | omega | (simp only [l2]; omega)) only [ht, r2, t2, l2, xB_s, yck, ygI, ygR0, ypI, yaI0, yaB0, yaJ0, yaR0, ysI0, ysB20, ysB30, ysJ0, kI_o, kJ_o, kR_o, kV_o, xZ_0, xZ_1, wr_id, wl_id, Int.toNat_natCast, Int.zero_add]
    by_cases hc : I (m + 2) t = s
    · rw [if_pos hc, if_pos hc]
    · rw [if_neg hc, if_neg hc]
      refine ih (t + 1) (by omega) ⟨u, ?_, by omega, hu⟩ n (by omega)
      rcases Nat.lt_or_ge t u with z | z
      · omega
      · exact absurd (show I (m + 2) t = s by rw [show t = u by omega]; exact hu) hc
theorem s_whereIs (hs : ShM h m) {s : Int} {k : Nat} (hk : k ≤ 7) (hu : ∃ u, u < k ∧ I (m + 2) u = s) : rn (d + 1) 163 [iR (some m), iI s] (st h I J) = some (oI (firstAt (I (m + 2)) s 0 k : Nat), st h I J) := by
  rw [r_M_whereIs, e_M_whereIs]
  obtain ⟨u, h1, h2⟩ := hu
  exact s_whereIs_l hs k 0 (by omega) ⟨u, by omega, by omega, h2⟩ 999999 (by omega)
theorem s_milesOf (hs : ShM h m) {x y : Int} (hx : 0 ≤ x ∧ x < 7) (hy : 0 ≤ y ∧ y < 7) : rn (d + 2) 168 [iR (some m), iI x, iI y] (st h I J) = some (oI (I (m + 2) (120 + (7 * x + y)).toNat), st h I J) := by
  obtain ⟨h3, ht, ⟨-, r2, -, -, -, -, -, -, -, -, -, -, -, -, -, -, -, -, -, -, -, -, -, -, -, -, -, -, -⟩, ⟨-, t2, -, -, -, -, -, -, -, -, -, -, -, -, -, -, -, -, -, -, -, -, -, -, -, -, -, -, -⟩, ⟨-, l2, -, -, -, -, -, -, -, -, -, -, -, -, -, -, -, -, -, -, -, -, -, -, -, -, -, -, -⟩⟩ := id hs
  rw [r_M_milesOf, e_M_milesOf]
  simp (disch := first | assumption | omega | (simp only [l2]; omega)) only [ht, r2, t2, l2, xB_s, yck, ygI, ygR0, ypI, yaI0, yaB0, yaJ0, yaR0, ysI0, ysB20, ysB30, ysJ0, kI_o, kJ_o, kR_o, kV_o, xZ_0, xZ_1, wr_id, wl_id, Int.toNat_natCast, Int.zero_add, s_pairAt]
theorem s_isOpen (hs : ShM h m) {x y : Int} (hx : 0 ≤ x ∧ x < 7) (hy : 0 ≤ y ∧ y < 7) : rn (d + 3) 169 [iR (some m), iI x, iI y] (st h I J) = some (oI (if 0 < I (m + 2) (120 + (7 * x + y)).toNat ∧ I (m + 2) (63 + (7 * x + y)).toNat = 0 then 1 else 0), st h I J) := by
  obtain ⟨h3, ht, ⟨-, r2, -, -, -, -, -, -, -, -, -, -, -, -, -, -, -, -, -, -, -, -, -, -, -, -, -, -, -⟩, ⟨-, t2, -, -, -, -, -, -, -, -, -, -, -, -, -, -, -, -, -, -, -, -, -, -, -, -, -, -, -⟩, ⟨-, l2, -, -, -, -, -, -, -, -, -, -, -, -, -, -, -, -, -, -, -, -, -, -, -, -, -, -, -⟩⟩ := id hs
  rw [r_M_isOpen, e_M_isOpen, yck ht, s_milesOf hs hx hy, kI_o]
  by_cases h1 : I (m + 2) (120 + (7 * x + y)).toNat ≤ 0
  · rw [if_pos h1, if_neg (by omega), xZ_0]
  · rw [if_neg h1]
    simp (disch := first | assumption | omega | (simp only [l2]; omega)) only [ht, r2, t2, l2, xB_s, yck, ygI, ygR0, ypI, yaI0, yaB0, yaJ0, yaR0, ysI0, ysB20, ysB30, ysJ0, kI_o, kJ_o, kR_o, kV_o, xZ_0, xZ_1, wr_id, wl_id, Int.toNat_natCast, Int.zero_add, s_pairAt]
    by_cases h2 : I (m + 2) (63 + (7 * x + y)).toNat = 0
    · rw [if_pos h2, if_pos ⟨by omega, h2⟩]
    · rw [if_neg h2, if_neg (fun z => h2 z.2)]
def modRoad (I : Nat → Nat → Int) (m : Nat) (x y v : Int) : Nat → Nat → Int :=
  up (up (up (up I (m + 2) (120 + (7 * x + y)).toNat v) (m + 2) (120 + (7 * y + x)).toNat v) (m + 2) (63 + (7 * x + y)).toNat 0) (m + 2) (63 + (7 * y + x)).toNat 0
theorem s_laysRoad (hs : ShM h m) {x y v : Int} (hx : 0 ≤ x ∧ x < 7) (hy : 0 ≤ y ∧ y < 7) : rn (d + 2) 167 [iR (some m), iI x, iI y, iI v] (st h I J) = some (o0, st h (modRoad I m x y v) J) := by
  obtain ⟨h3, ht, ⟨-, r2, -, -, -, -, -, -, -, -, -, -, -, -, -, -, -, -, -, -, -, -, -, -, -, -, -, -, -⟩, ⟨-, t2, -, -, -, -, -, -, -, -, -, -, -, -, -, -, -, -, -, -, -, -, -, -, -, -, -, -, -⟩, ⟨-, l2, -, -, -, -, -, -, -, -, -, -, -, -, -, -, -, -, -, -, -, -, -, -, -, -, -, -, -⟩⟩ := id hs
  rw [r_M_laysRoad, e_M_laysRoad]
  simp (disch := first | assumption | omega | (simp only [l2]; omega)) only [ht, r2, t2, l2, xB_s, yck, ygI, ygR0, ypI, yaI0, yaB0, yaJ0, yaR0, ysI0, ysB20, ysB30, ysJ0, kI_o, kJ_o, kR_o, kV_o, xZ_0, xZ_1, wr_id, wl_id, Int.toNat_natCast, Int.zero_add, s_pairAt]
  rfl
end P27
