/-! Rows by which equations are walked; what the objects look like (by program, wip/whole/gen25.py) -/
theorem sI_T (h : IH) (I : Nat → Nat → Int) : hT (sI h I) = hT h := rfl
theorem sI_L (h : IH) (I : Nat → Nat → Int) : hL (sI h I) = hL h := rfl
theorem sI_R (h : IH) (I : Nat → Nat → Int) : hR (sI h I) = hR h := rfl
theorem sI_J (h : IH) (I : Nat → Nat → Int) : hJ (sI h I) = hJ h := rfl
theorem sI_N (h : IH) (I : Nat → Nat → Int) : hN (sI h I) = hN h := rfl
theorem sI_S (h : IH) (I : Nat → Nat → Int) : hS (sI h I) = hS h := rfl
theorem sI_I (h : IH) (I : Nat → Nat → Int) : hI (sI h I) = I := rfl
theorem sI_sI (h : IH) (I I' : Nat → Nat → Int) : sI (sI h I) I' = sI h I' := rfl
theorem sI_self (h : IH) : sI h (hI h) = h := rfl
theorem sR_T (h : IH) (I : Nat → Nat → Option Nat) : hT (sR h I) = hT h := rfl
theorem sR_L (h : IH) (I : Nat → Nat → Option Nat) : hL (sR h I) = hL h := rfl
theorem sR_R (h : IH) (I : Nat → Nat → Option Nat) : hR (sR h I) = I := rfl
theorem sR_J (h : IH) (I : Nat → Nat → Option Nat) : hJ (sR h I) = hJ h := rfl
theorem sR_N (h : IH) (I : Nat → Nat → Option Nat) : hN (sR h I) = hN h := rfl
theorem sR_S (h : IH) (I : Nat → Nat → Option Nat) : hS (sR h I) = hS h := rfl
theorem sR_I (h : IH) (I : Nat → Nat → Option Nat) : hI (sR h I) = hI h := rfl
theorem sJ_T (h : IH) (I : Nat → Nat → Int) : hT (sJ h I) = hT h := rfl
theorem sJ_L (h : IH) (I : Nat → Nat → Int) : hL (sJ h I) = hL h := rfl
theorem sJ_R (h : IH) (I : Nat → Nat → Int) : hR (sJ h I) = hR h := rfl
theorem sJ_J (h : IH) (I : Nat → Nat → Int) : hJ (sJ h I) = I := rfl
theorem sJ_N (h : IH) (I : Nat → Nat → Int) : hN (sJ h I) = hN h := rfl
theorem sJ_S (h : IH) (I : Nat → Nat → Int) : hS (sJ h I) = hS h := rfl
theorem sJ_I (h : IH) (I : Nat → Nat → Int) : hI (sJ h I) = hI h := rfl
theorem up_eq (I : Nat → Nat → Int) (a i : Nat) (x : Int) : up I a i x a i = x := if_pos ⟨rfl, rfl⟩
theorem up_na {I : Nat → Nat → Int} {a i b : Nat} {x : Int} (h : b ≠ a) : up I a i x b = I b := funext fun _ => if_neg fun z => h z.1
theorem up_ni {I : Nat → Nat → Int} {a i b j : Nat} {x : Int} (h : j ≠ i) : up I a i x b j = I b j := if_neg fun z => h z.2
theorem up_at (I : Nat → Nat → Int) (a i : Nat) (x : Int) (j : Nat) : up I a i x a j = if j = i then x else I a j := by
  unfold up
  by_cases h : j = i
  · rw [if_pos h, if_pos ⟨rfl, h⟩]
  · rw [if_neg h, if_neg fun z => h z.2]
theorem upR_eq (I : Nat → Nat → Option Nat) (a i : Nat) (x : Option Nat) : upR I a i x a i = x := if_pos ⟨rfl, rfl⟩
theorem upR_na {I : Nat → Nat → Option Nat} {a i b : Nat} {x : Option Nat} (h : b ≠ a) : upR I a i x b = I b := funext fun _ => if_neg fun z => h z.1
theorem upR_ni {I : Nat → Nat → Option Nat} {a i b j : Nat} {x : Option Nat} (h : j ≠ i) : upR I a i x b j = I b j := if_neg fun z => h z.2
section P25
variable {h : IH} {a t i : Nat} {x y j n : Int} {o : Option Nat}
theorem xB_s (a : Nat) (k : Nat → Option IR) : xB (some a) k = k a := rfl
theorem kV_s (q : IR) (k : IH → Option IR) : kV (some q) k = k q.2 := rfl
theorem kI_s (q : IR) (k : Int → IH → Option IR) : kI (some q) k = k q.1.1 q.2 := rfl
theorem kJ_s (q : IR) (k : Int → IH → Option IR) : kJ (some q) k = k q.1.2.1 q.2 := rfl
theorem kR_s (q : IR) (k : Option Nat → IH → Option IR) : kR (some q) k = k q.1.2.2 q.2 := rfl
theorem kI_o (x : Int) (h : IH) (k : Int → IH → Option IR) : kI (some (oI x, h)) k = k x h := rfl
theorem kJ_o (x : Int) (h : IH) (k : Int → IH → Option IR) : kJ (some (oJ x, h)) k = k x h := rfl
theorem kR_o (x : Option Nat) (h : IH) (k : Option Nat → IH → Option IR) : kR (some (oR x, h)) k = k x h := rfl
theorem kV_o (r : IRV) (h : IH) (k : IH → Option IR) : kV (some (r, h)) k = k h := rfl
theorem xck_ok {k : Option IR} (e : hT h a = t) : xck h a t k = k := if_pos e
theorem xgI_ok {k : Int → Option IR} (e : hT h a = t) : xgI h a t i k = k (hI h a i) := if_pos e
theorem xgR_ok {k : Option Nat → Option IR} (e : hT h a = t) : xgR h a t i k = k (hR h a i) := if_pos e
theorem xpI_ok {k : IH → Option IR} (e : hT h a = t) (e3 : 3 ≤ a) : xpI h a t i x k = k (sI h (up (hI h) a i x)) := if_pos ⟨e, e3⟩
theorem xpZ_ok {k : IH → Option IR} (e : hT h a = t) (e3 : 3 ≤ a) (ex : x = 0 ∨ x = 1) : xpZ h a t i x k = k (sI h (up (hI h) a i x)) := if_pos ⟨⟨e, e3⟩, ex⟩
theorem xpR_ok {k : IH → Option IR} (e : hT h a = t) (e3 : 3 ≤ a) : xpR h a t i o k = k (sR h (upR (hR h) a i o)) := if_pos ⟨e, e3⟩
theorem xaI_ok {k : Int → Option IR} (e : hT h a = 0) (e1 : 0 ≤ j) (e2 : j < (hL h a : Int)) : xaI h a j k = k (hI h a j.toNat) := if_pos ⟨e, e1, e2⟩
theorem xaB_ok {k : Int → Option IR} (e : hT h a = 2 ∨ hT h a = 3) (e1 : 0 ≤ j) (e2 : j < (hL h a : Int)) : xaB h a j k = k (hI h a j.toNat) := if_pos ⟨e, e1, e2⟩
theorem xaJ_ok {k : Int → Option IR} (e : hT h a = 1) (e1 : 0 ≤ j) (e2 : j < (hL h a : Int)) : xaJ h a j k = k (hJ h a j.toNat) := if_pos ⟨e, e1, e2⟩
theorem xaR_ok {k : Option Nat → Option IR} (e : hT h a = 4 ∨ hT h a = 5) (e1 : 0 ≤ j) (e2 : j < (hL h a : Int)) : xaR h a j k = k (hR h a j.toNat) := if_pos ⟨e, e1, e2⟩
theorem xsI_ok {k : IH → Option IR} (e : hT h a = 0) (e3 : 3 ≤ a) (e1 : 0 ≤ j) (e2 : j < (hL h a : Int)) : xsI h a j x k = k (sI h (up (hI h) a j.toNat x)) := if_pos ⟨⟨e, e3⟩, e1, e2⟩
theorem xsB2_ok {k : IH → Option IR} (e : hT h a = 2) (e3 : 3 ≤ a) (e1 : 0 ≤ j) (e2 : j < (hL h a : Int)) : xsB h a j x k = k (sI h (up (hI h) a j.toNat (n8 x))) := if_pos ⟨⟨e, e3⟩, e1, e2⟩
theorem xsB3_ok {k : IH → Option IR} (e : hT h a = 3) (e3 : 3 ≤ a) (e1 : 0 ≤ j) (e2 : j < (hL h a : Int)) : xsB h a j x k = k (sI h (up (hI h) a j.toNat (n1 x))) := by
  unfold xsB
  rw [if_neg (fun z => by have := z.1.1; rw [e] at this; cases this), if_pos ⟨⟨e, e3⟩, e1, e2⟩]
theorem xsJ_ok {k : IH → Option IR} (e : hT h a = 1) (e3 : 3 ≤ a) (e1 : 0 ≤ j) (e2 : j < (hL h a : Int)) : xsJ h a j x k = k (sJ h (up (hJ h) a j.toNat x)) := if_pos ⟨⟨e, e3⟩, e1, e2⟩
theorem xZ_0 : xZ 0 h = some (oI 0, h) := rfl
theorem xZ_1 : xZ 1 h = some (oI 1, h) := rfl
theorem xZ_ok (e : x = 0 ∨ x = 1) : xZ x h = some (oI x, h) := if_pos e
theorem xdI_ok {k : Int → Option IR} (e : y ≠ 0) : xdI x y k = k (wr (Int.tdiv x y)) := if_neg e
theorem xmI_ok {k : Int → Option IR} (e : y ≠ 0) : xmI x y k = k (wr (Int.tmod x y)) := if_neg e
theorem xdJ_ok {k : Int → Option IR} (e : y ≠ 0) : xdJ x y k = k (wl (Int.tdiv x y)) := if_neg e
theorem xmJ_ok {k : Int → Option IR} (e : y ≠ 0) : xmJ x y k = k (wl (Int.tmod x y)) := if_neg e
end P25
/-- the cells of h with these ints, these longs -/
def st (h : IH) (I J : Nat → Nat → Int) : IH := (h.1, h.2.1, h.2.2.1, I, J, h.2.2.2.2.2)
theorem st_self (h : IH) : st h (hI h) (hJ h) = h := rfl
theorem st_I (h : IH) (I J : Nat → Nat → Int) : hI (st h I J) = I := rfl
theorem st_J (h : IH) (I J : Nat → Nat → Int) : hJ (st h I J) = J := rfl
theorem st_T (h : IH) (I J : Nat → Nat → Int) : hT (st h I J) = hT h := rfl
theorem st_L (h : IH) (I J : Nat → Nat → Int) : hL (st h I J) = hL h := rfl
theorem st_R (h : IH) (I J : Nat → Nat → Int) : hR (st h I J) = hR h := rfl
theorem st_N (h : IH) (I J : Nat → Nat → Int) : hN (st h I J) = hN h := rfl
theorem st_S (h : IH) (I J : Nat → Nat → Int) : hS (st h I J) = hS h := rfl
section P25s
variable {h : IH} {I J : Nat → Nat → Int} {a b t i n m : Nat} {x y j : Int} {o : Option Nat}
theorem yck {k : Option IR} (e : hT h a = t) : xck (st h I J) a t k = k := if_pos e
theorem ygI {k : Int → Option IR} (e : hT h a = t) : xgI (st h I J) a t i k = k (I a i) := if_pos e
theorem ygR {k : Option Nat → Option IR} (e : hT h a = t) (r : hR h a i = o) : xgR (st h I J) a t i k = k o := (if_pos e).trans (congrArg k r)
theorem ypI {k : IH → Option IR} (e : hT h a = t) (e3 : 3 ≤ a) : xpI (st h I J) a t i x k = k (st h (up I a i x) J) := if_pos ⟨e, e3⟩
theorem ypZ {k : IH → Option IR} (e : hT h a = t) (e3 : 3 ≤ a) (ex : x = 0 ∨ x = 1) : xpZ (st h I J) a t i x k = k (st h (up I a i x) J) := if_pos ⟨⟨e, e3⟩, ex⟩
theorem ypR {k : IH → Option IR} (e : hT h a = t) (e3 : 3 ≤ a) : xpR (st h I J) a t i o k = k (st (sR h (upR (hR h) a i o)) I J) := if_pos ⟨e, e3⟩
theorem yaI {k : Int → Option IR} (e : hT h a = 0) (l : hL h a = n) (e1 : 0 ≤ j) (e2 : j < (n : Int)) : xaI (st h I J) a j k = k (I a j.toNat) := if_pos ⟨e, e1, by show j < (hL h a : Int); rw [l]; exact e2⟩
theorem yaN {i : Nat} {k : Int → Option IR} (e : hT h a = 0) (l : hL h a = n) (e2 : i < n) : xaI (st h I J) a (i : Int) k = k (I a i) := if_pos ⟨e, by omega, by show (i : Int) < (hL h a : Int); rw [l]; omega⟩
theorem yaB {k : Int → Option IR} (e : hT h a = 2 ∨ hT h a = 3) (l : hL h a = n) (e1 : 0 ≤ j) (e2 : j < (n : Int)) : xaB (st h I J) a j k = k (I a j.toNat) := if_pos ⟨e, e1, by show j < (hL h a : Int); rw [l]; exact e2⟩
theorem yaJ {k : Int → Option IR} (e : hT h a = 1) (l : hL h a = n) (e1 : 0 ≤ j) (e2 : j < (n : Int)) : xaJ (st h I J) a j k = k (J a j.toNat) := if_pos ⟨e, e1, by show j < (hL h a : Int); rw [l]; exact e2⟩
theorem yaR {k : Option Nat → Option IR} (e : hT h a = 4 ∨ hT h a = 5) (l : hL h a = n) (e1 : 0 ≤ j) (e2 : j < (n : Int)) : xaR (st h I J) a j k = k (hR h a j.toNat) := if_pos ⟨e, e1, by show j < (hL h a : Int); rw [l]; exact e2⟩
theorem ysI {k : IH → Option IR} (e : hT h a = 0) (e3 : 3 ≤ a) (l : hL h a = n) (e1 : 0 ≤ j) (e2 : j < (n : Int)) : xsI (st h I J) a j x k = k (st h (up I a j.toNat x) J) := if_pos ⟨⟨e, e3⟩, e1, by show j < (hL h a : Int); rw [l]; exact e2⟩
theorem ysN {i : Nat} {k : IH → Option IR} (e : hT h a = 0) (e3 : 3 ≤ a) (l : hL h a = n) (e2 : i < n) : xsI (st h I J) a (i : Int) x k = k (st h (up I a i x) J) := if_pos ⟨⟨e, e3⟩, by omega, by show (i : Int) < (hL h a : Int); rw [l]; omega⟩
theorem ysB2 {k : IH → Option IR} (e : hT h a = 2) (e3 : 3 ≤ a) (l : hL h a = n) (e1 : 0 ≤ j) (e2 : j < (n : Int)) : xsB (st h I J) a j x k = k (st h (up I a j.toNat (n8 x)) J) := if_pos ⟨⟨e, e3⟩, e1, by show j < (hL h a : Int); rw [l]; exact e2⟩
theorem ysB3 {k : IH → Option IR} (e : hT h a = 3) (e3 : 3 ≤ a) (l : hL h a = n) (e1 : 0 ≤ j) (e2 : j < (n : Int)) : xsB (st h I J) a j x k = k (st h (up I a j.toNat (n1 x)) J) := xsB3_ok (h := st h I J) e e3 e1 (by show j < (hL h a : Int); rw [l]; exact e2)
theorem ysJ {k : IH → Option IR} (e : hT h a = 1) (e3 : 3 ≤ a) (l : hL h a = n) (e1 : 0 ≤ j) (e2 : j < (n : Int)) : xsJ (st h I J) a j x k = k (st h I (up J a j.toNat x)) := if_pos ⟨⟨e, e3⟩, e1, by show j < (hL h a : Int); rw [l]; exact e2⟩
theorem yle {k : Int → Option IR} (e : hT h a < 6) (l : hL h a = n) (hn : n ≤ 2000000) : xle (st h I J) a k = k (n : Int) := by
  show (if hT h a < 6 then k (wr (hL h a : Int)) else none) = _
  rw [if_pos e, l, wr_id (by omega) (by omega)]
theorem ycp {k : IH → Option IR} {i j c : Nat} (ea : hT h a = 0) (eb : hT h b = 0) (hab : a ≠ b) (a3 : 3 ≤ a) (b3 : 3 ≤ b) (la : hL h a = n) (lb : hL h b = m) (h1 : i + c ≤ n) (h2 : j + c ≤ m) : xcp (st h I J) (some a) (i : Int) (some b) (j : Int) (c : Int) k = k (st h (cpy I a i b j c) J) := by
  show (if (hT h a = 0 ∧ hT h b = 0 ∧ a ≠ b ∧ 3 ≤ a ∧ 3 ≤ b) ∧ 0 ≤ (i : Int) ∧ 0 ≤ (j : Int) ∧ 0 ≤ (c : Int) ∧ (i : Int) + c ≤ (hL h a : Int) ∧ (j : Int) + c ≤ (hL h b : Int) then _ else none) = _
  rw [if_pos ⟨⟨ea, eb, hab, a3, b3⟩, by omega, by omega, by omega, by rw [la]; omega, by rw [lb]; omega⟩]
  rfl
end P25s
/-- a LAND stands at a: the object, then its rows -/
def ShLand (h : IH) (a : Nat) : Prop := 3 ≤ a ∧ hT h a = 11 ∧ (hR h a 1 = some (a + 1) ∧ hR h a 2 = some (a + 2) ∧ hR h a 3 = some (a + 3) ∧ hR h a 4 = some (a + 4) ∧ hR h a 5 = some (a + 5) ∧ hR h a 6 = some (a + 6) ∧ hR h a 7 = some (a + 7) ∧ hR h a 8 = some (a + 8) ∧ hR h a 9 = some (a + 9) ∧ hR h a 10 = some (a + 10) ∧ hR h a 12 = some (a + 11)) ∧ (hT h (a + 1) = 0 ∧ hT h (a + 2) = 0 ∧ hT h (a + 3) = 0 ∧ hT h (a + 4) = 0 ∧ hT h (a + 5) = 0 ∧ hT h (a + 6) = 0 ∧ hT h (a + 7) = 0 ∧ hT h (a + 8) = 0 ∧ hT h (a + 9) = 0 ∧ hT h (a + 10) = 0 ∧ hT h (a + 11) = 4) ∧ (hL h (a + 1) = 7 ∧ hL h (a + 2) = 7 ∧ hL h (a + 3) = 7 ∧ hL h (a + 4) = 7 ∧ hL h (a + 5) = 49 ∧ hL h (a + 6) = 49 ∧ hL h (a + 7) = 7 ∧ hL h (a + 8) = 3 ∧ hL h (a + 9) = 6 ∧ hL h (a + 10) = 6 ∧ hL h (a + 11) = 6)
section La
variable {d : Nat} {h : IH} {I J : Nat → Nat → Int} {a : Nat}
theorem s_isTown (hs : ShLand h a) (x : Int) : rn (d + 1) 10 [iR (some a), iI x] (st h I J) = some (oI (if 0 ≤ x ∧ x < I a 0 then 1 else 0), st h I J) := by
  obtain ⟨h3, ht, -⟩ := hs
  rw [r_La_isTown, e_La_isTown]
  simp only [ygI ht, xZ_0, xZ_1]
  split
  · rw [if_neg (by omega)]
  · split
    · rw [if_pos (by omega)]
    · rw [if_neg (by omega)]
theorem s_isLaw (hs : ShLand h a) (x : Int) : rn (d + 1) 11 [iR (some a), iI x] (st h I J) = some (oI (if 0 ≤ x ∧ x < I a 13 then 1 else 0), st h I J) := by
  obtain ⟨h3, ht, -⟩ := hs
  rw [r_La_isLaw, e_La_isLaw]
  simp only [ygI ht, xZ_0, xZ_1]
  split
  · rw [if_neg (by omega)]
  · split
    · rw [if_pos (by omega)]
    · rw [if_neg (by omega)]
theorem s_lawInForce (hs : ShLand h a) (hb : I a 13 ≤ 6) : rn (d + 2) 12 [iR (some a)] (st h I J) = some (oR (if 0 ≤ I a 14 ∧ I a 14 < I a 13 then hR h (a + 11) (I a 14).toNat else none), st h I J) := by
  obtain ⟨h3, ht, ⟨-, -, -, -, -, -, -, -, -, -, r12⟩, ⟨-, -, -, -, -, -, -, -, -, -, t11⟩, ⟨-, -, -, -, -, -, -, -, -, -, l11⟩⟩ := id hs
  rw [r_La_lawInForce, e_La_lawInForce, ygI ht, yck ht, s_isLaw hs]
  by_cases hc : 0 ≤ I a 14 ∧ I a 14 < I a 13
  · rw [if_pos hc, if_pos hc, kI_o, if_neg, ygR ht r12, ygI ht, xB_s, yaR (Or.inl t11) l11 hc.1 (by omega)]
    exact fun z => absurd z (by decide)
  · rw [if_neg hc, if_neg hc, kI_o, if_pos rfl]
theorem s_milesBetween (hs : ShLand h a) {x y : Int} (hx : 0 ≤ x ∧ x < 7) (hy : 0 ≤ y ∧ y < 7) : rn (d + 1) 13 [iR (some a), iI x, iI y] (st h I J) = some (oI (I (a + 6) (x * 7 + y).toNat), st h I J) := by
  obtain ⟨h3, ht, ⟨-, -, -, -, -, r6, -⟩, ⟨-, -, -, -, -, t6, -⟩, ⟨-, -, -, -, -, l6, -⟩⟩ := id hs
  rw [r_La_milesBetween, e_La_milesBetween, ygR ht r6, xB_s, wr_id (x := x * 7) (by omega) (by omega), wr_id (by omega) (by omega), yaI t6 l6 (by omega) (by omega)]
theorem s_closedBetween (hs : ShLand h a) {x y : Int} (hx : 0 ≤ x ∧ x < 7) : rn (d + 1) 14 [iR (some a), iI x, iI y] (st h I J) = some (oI (iand (ishr (I (a + 7) x.toNat) y) 1), st h I J) := by
  obtain ⟨h3, ht, ⟨-, -, -, -, -, -, r7, -⟩, ⟨-, -, -, -, -, -, t7, -⟩, ⟨-, -, -, -, -, -, l7, -⟩⟩ := id hs
  rw [r_La_closedBetween, e_La_closedBetween, ygR ht r7, xB_s, yaI t7 l7 hx.1 (by omega)]
def landRoad (I : Nat → Nat → Int) (a : Nat) (x y m : Int) : Nat → Nat → Int :=
  let I1 := up (up I (a + 6) (x * 7 + y).toNat m) (a + 6) (y * 7 + x).toNat m
  let I2 := up I1 (a + 7) x.toNat (iand (I1 (a + 7) x.toNat) (ixor (ishl 1 y) (-1)))
  up I2 (a + 7) y.toNat (iand (I2 (a + 7) y.toNat) (ixor (ishl 1 x) (-1)))
theorem s_setRoad (hs : ShLand h a) {x y m : Int} (hx : 0 ≤ x ∧ x < 7) (hy : 0 ≤ y ∧ y < 7) : rn (d + 1) 15 [iR (some a), iI x, iI y, iI m] (st h I J) = some (o0, st h (landRoad I a x y m) J) := by
  obtain ⟨h3, ht, ⟨-, -, -, -, -, r6, r7, -⟩, ⟨-, -, -, -, -, t6, t7, -⟩, ⟨-, -, -, -, -, l6, l7, -⟩⟩ := id hs
  rw [r_La_setRoad, e_La_setRoad, wr_id (x := x * 7) (by omega) (by omega), wr_id (x := x * 7 + y) (by omega) (by omega), wr_id (x := y * 7) (by omega) (by omega), wr_id (x := y * 7 + x) (by omega) (by omega)]
  rw [ygR ht r6, xB_s, ysI t6 (by omega) l6 (by omega) (by omega), ygR ht r6, xB_s, ysI t6 (by omega) l6 (by omega) (by omega), ygR ht r7, xB_s, yaI t7 l7 (by omega) (by omega), xB_s, ysI t7 (by omega) l7 (by omega) (by omega), ygR ht r7, xB_s, yaI t7 l7 (by omega) (by omega), xB_s, ysI t7 (by omega) l7 (by omega) (by omega)]
  rfl
def landTurn (I : Nat → Nat → Int) (a : Nat) (x y : Int) : Nat → Nat → Int :=
  let I1 := up I (a + 7) x.toNat (ixor (I (a + 7) x.toNat) (ishl 1 y))
  up I1 (a + 7) y.toNat (ixor (I1 (a + 7) y.toNat) (ishl 1 x))
theorem s_turnClosed (hs : ShLand h a) {x y : Int} (hx : 0 ≤ x ∧ x < 7) (hy : 0 ≤ y ∧ y < 7) : rn (d + 1) 16 [iR (some a), iI x, iI y] (st h I J) = some (o0, st h (landTurn I a x y) J) := by
  obtain ⟨h3, ht, ⟨-, -, -, -, -, -, r7, -⟩, ⟨-, -, -, -, -, -, t7, -⟩, ⟨-, -, -, -, -, -, l7, -⟩⟩ := id hs
  rw [r_La_turnClosed, e_La_turnClosed, ygR ht r7, xB_s, yaI t7 l7 (by omega) (by omega), xB_s, ysI t7 (by omega) l7 (by omega) (by omega), ygR ht r7, xB_s, yaI t7 l7 (by omega) (by omega), xB_s, ysI t7 (by omega) l7 (by omega) (by omega)]
  rfl
theorem s_put (hs : ShLand h a) {x y : Int} (hx : 0 ≤ x ∧ x < 7) (hy : 0 ≤ y ∧ y < 7) : rn (d + 1) 17 [iR (some a), iI x, iI y] (st h I J) = some (o0, st h (up (up I (a + 1) x.toNat y) (a + 2) y.toNat x) J) := by
  obtain ⟨h3, ht, ⟨r1, r2, -⟩, ⟨t1, t2, -⟩, ⟨l1, l2, -⟩⟩ := id hs
  rw [r_La_put, e_La_put, ygR ht r1, xB_s, ysI t1 (by omega) l1 (by omega) (by omega), ygR ht r2, xB_s, ysI t2 (by omega) l2 (by omega) (by omega)]
/-- how many of the first n places hold themselves -/
def cntSelf (f : Nat → Int) : Nat → Nat
  | 0 => 0
  | n + 1 => cntSelf f n + (if f n = (n : Int) then 1 else 0)
theorem cntSelf_s (f : Nat → Int) (n : Nat) : cntSelf f (n + 1) = cntSelf f n + (if f n = (n : Int) then 1 else 0) := rfl
theorem cntSelf_le (f : Nat → Int) : ∀ n, cntSelf f n ≤ n
  | 0 => Nat.le_refl _
  | n + 1 => by
    have := cntSelf_le f n
    rw [cntSelf_s]
    split <;> omega
theorem nc1 (n : Nat) : (n : Int) + 1 = ((n + 1 : Nat) : Int) := rfl
theorem s_countHome_l (hs : ShLand h a) {m : Nat} (hm : I a 0 = (m : Int)) (hm7 : m ≤ 7) : ∀ (k j : Nat), j + k = m → ∀ n, k < n → lp d 18 n 4 [some (iR (some a)), some (iI (cntSelf (I (a + 2)) j : Nat)), some (iI (j : Nat))] [] (st h I J) = some (oI (cntSelf (I (a + 2)) m : Nat), st h I J) := by
  obtain ⟨h3, ht, ⟨-, r2, -⟩, ⟨-, t2, -⟩, ⟨-, l2, -⟩⟩ := id hs
  intro k
  induction k with
  | zero =>
    intro j hj n hn
    obtain ⟨n, rfl⟩ : ∃ q, n = q + 1 := ⟨n - 1, by omega⟩
    rw [e_La_countHome_4, ygI ht, hm, if_neg (by omega), show j = m by omega]
  | succ k ih =>
    intro j hj n hn
    obtain ⟨n, rfl⟩ : ∃ q, n = q + 1 := ⟨n - 1, by omega⟩
    have hc := cntSelf_le (I (a + 2)) j
    have hi := ih (j + 1) (by omega) n (by omega)
    rw [e_La_countHome_4, ygI ht, hm, if_pos (by omega), ygR ht r2, xB_s, yaN t2 l2 (by omega), wr_id (by omega) (by omega), wr_id (by omega) (by omega)]
    rw [cntSelf_s] at hi
    by_cases hc : I (a + 2) j = (j : Int)
    · rw [if_pos hc] at hi ⊢
      exact hi
    · rw [if_neg hc] at hi ⊢
      exact hi
theorem s_countHome (hs : ShLand h a) {m : Nat} (hm : I a 0 = (m : Int)) (hm7 : m ≤ 7) : rn (d + 1) 18 [iR (some a)] (st h I J) = some (oI (cntSelf (I (a + 2)) m : Nat), st h I J) := by
  rw [r_La_countHome, e_La_countHome]
  exact s_countHome_l hs hm hm7 m 0 (by omega) 999999 (by omega)
end La
