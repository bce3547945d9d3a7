/-! Shapes of the helpers; their small methods (by program, wip/whole/gen28.py) -/
section P28a
variable {h : IH} {I J : Nat → Nat → Int} {a b : Nat} {i j n : Int}
theorem yle0 {k : Int → Option IR} (e : hT h a < 6) (hn : (hL h a : Int) ≤ 2000000) : xle (st h I J) a k = k (hL h a : Int) := by
  show (if hT h a < 6 then k (wr (hL h a : Int)) else none) = _
  rw [if_pos e, wr_id (by omega) (by omega)]
theorem ycp0 {k : IH → Option IR} (ea : hT h a = 0) (eb : hT h b = 0) (hab : a ≠ b) (a3 : 3 ≤ a) (b3 : 3 ≤ b) (hi : 0 ≤ i) (hj : 0 ≤ j) (hn : 0 ≤ n) (h1 : i + n ≤ (hL h a : Int)) (h2 : j + n ≤ (hL h b : Int)) : xcp (st h I J) (some a) i (some b) j n k = k (st h (cpy I a i.toNat b j.toNat n.toNat) J) := if_pos ⟨⟨ea, eb, hab, a3, b3⟩, hi, hj, hn, h1, h2⟩
end P28a
theorem La_3 {h : IH} {a : Nat} (hs : ShLand h a) : 3 ≤ a := hs.1
theorem La_t {h : IH} {a : Nat} (hs : ShLand h a) : hT h a = 11 := hs.2.1
theorem La_r1 {h : IH} {a : Nat} (hs : ShLand h a) : hR h a 1 = some (a + 1) := hs.2.2.1.1
theorem La_r2 {h : IH} {a : Nat} (hs : ShLand h a) : hR h a 2 = some (a + 2) := hs.2.2.1.2.1
theorem La_r3 {h : IH} {a : Nat} (hs : ShLand h a) : hR h a 3 = some (a + 3) := hs.2.2.1.2.2.1
theorem La_r4 {h : IH} {a : Nat} (hs : ShLand h a) : hR h a 4 = some (a + 4) := hs.2.2.1.2.2.2.1
theorem La_r5 {h : IH} {a : Nat} (hs : ShLand h a) : hR h a 5 = some (a + 5) := hs.2.2.1.2.2.2.2.1
theorem La_r6 {h : IH} {a : Nat} (hs : ShLand h a) : hR h a 6 = some (a + 6) := hs.2.2.1.2.2.2.2.2.1
theorem La_r7 {h : IH} {a : Nat} (hs : ShLand h a) : hR h a 7 = some (a + 7) := hs.2.2.1.2.2.2.2.2.2.1
theorem La_r8 {h : IH} {a : Nat} (hs : ShLand h a) : hR h a 8 = some (a + 8) := hs.2.2.1.2.2.2.2.2.2.2.1
theorem La_r9 {h : IH} {a : Nat} (hs : ShLand h a) : hR h a 9 = some (a + 9) := hs.2.2.1.2.2.2.2.2.2.2.2.1
theorem La_r10 {h : IH} {a : Nat} (hs : ShLand h a) : hR h a 10 = some (a + 10) := hs.2.2.1.2.2.2.2.2.2.2.2.2.1
theorem La_r12 {h : IH} {a : Nat} (hs : ShLand h a) : hR h a 12 = some (a + 11) := hs.2.2.1.2.2.2.2.2.2.2.2.2.2
theorem La_t1 {h : IH} {a : Nat} (hs : ShLand h a) : hT h (a + 1) = 0 := hs.2.2.2.1.1
theorem La_l1 {h : IH} {a : Nat} (hs : ShLand h a) : hL h (a + 1) = 7 := hs.2.2.2.2.1
theorem La_t2 {h : IH} {a : Nat} (hs : ShLand h a) : hT h (a + 2) = 0 := hs.2.2.2.1.2.1
theorem La_l2 {h : IH} {a : Nat} (hs : ShLand h a) : hL h (a + 2) = 7 := hs.2.2.2.2.2.1
theorem La_t3 {h : IH} {a : Nat} (hs : ShLand h a) : hT h (a + 3) = 0 := hs.2.2.2.1.2.2.1
theorem La_l3 {h : IH} {a : Nat} (hs : ShLand h a) : hL h (a + 3) = 7 := hs.2.2.2.2.2.2.1
theorem La_t4 {h : IH} {a : Nat} (hs : ShLand h a) : hT h (a + 4) = 0 := hs.2.2.2.1.2.2.2.1
theorem La_l4 {h : IH} {a : Nat} (hs : ShLand h a) : hL h (a + 4) = 7 := hs.2.2.2.2.2.2.2.1
theorem La_t5 {h : IH} {a : Nat} (hs : ShLand h a) : hT h (a + 5) = 0 := hs.2.2.2.1.2.2.2.2.1
theorem La_l5 {h : IH} {a : Nat} (hs : ShLand h a) : hL h (a + 5) = 49 := hs.2.2.2.2.2.2.2.2.1
theorem La_t6 {h : IH} {a : Nat} (hs : ShLand h a) : hT h (a + 6) = 0 := hs.2.2.2.1.2.2.2.2.2.1
theorem La_l6 {h : IH} {a : Nat} (hs : ShLand h a) : hL h (a + 6) = 49 := hs.2.2.2.2.2.2.2.2.2.1
theorem La_t7 {h : IH} {a : Nat} (hs : ShLand h a) : hT h (a + 7) = 0 := hs.2.2.2.1.2.2.2.2.2.2.1
theorem La_l7 {h : IH} {a : Nat} (hs : ShLand h a) : hL h (a + 7) = 7 := hs.2.2.2.2.2.2.2.2.2.2.1
theorem La_t8 {h : IH} {a : Nat} (hs : ShLand h a) : hT h (a + 8) = 0 := hs.2.2.2.1.2.2.2.2.2.2.2.1
theorem La_l8 {h : IH} {a : Nat} (hs : ShLand h a) : hL h (a + 8) = 3 := hs.2.2.2.2.2.2.2.2.2.2.2.1
theorem La_t9 {h : IH} {a : Nat} (hs : ShLand h a) : hT h (a + 9) = 0 := hs.2.2.2.1.2.2.2.2.2.2.2.2.1
theorem La_l9 {h : IH} {a : Nat} (hs : ShLand h a) : hL h (a + 9) = 6 := hs.2.2.2.2.2.2.2.2.2.2.2.2.1
theorem La_t10 {h : IH} {a : Nat} (hs : ShLand h a) : hT h (a + 10) = 0 := hs.2.2.2.1.2.2.2.2.2.2.2.2.2.1
theorem La_l10 {h : IH} {a : Nat} (hs : ShLand h a) : hL h (a + 10) = 6 := hs.2.2.2.2.2.2.2.2.2.2.2.2.2.1
theorem La_t11 {h : IH} {a : Nat} (hs : ShLand h a) : hT h (a + 11) = 4 := hs.2.2.2.1.2.2.2.2.2.2.2.2.2.2
theorem La_l11 {h : IH} {a : Nat} (hs : ShLand h a) : hL h (a + 11) = 6 := hs.2.2.2.2.2.2.2.2.2.2.2.2.2.2
def ShRk (h : IH) (r : Nat) : Prop := 3 ≤ r ∧ hT h r = 16 ∧ hR h r 0 = some (r + 1) ∧ hT h (r + 1) = 0 ∧ hL h (r + 1) = 64
theorem Rk_3 {h : IH} {r : Nat} (hs : ShRk h r) : 3 ≤ r := hs.1
theorem Rk_t {h : IH} {r : Nat} (hs : ShRk h r) : hT h r = 16 := hs.2.1
theorem Rk_r0 {h : IH} {r : Nat} (hs : ShRk h r) : hR h r 0 = some (r + 1) := hs.2.2.1
theorem Rk_t1 {h : IH} {r : Nat} (hs : ShRk h r) : hT h (r + 1) = 0 := hs.2.2.2.1
theorem Rk_l1 {h : IH} {r : Nat} (hs : ShRk h r) : hL h (r + 1) = 64 := hs.2.2.2.2
def ShJu (h : IH) (j : Nat) : Prop := 3 ≤ j ∧ hT h j = 10 ∧ hR h j 0 = some (j + 1) ∧ hR h j 1 = some (j + 2) ∧ hT h (j + 1) = 0 ∧ hL h (j + 1) = 9 ∧ ShRk h (j + 2)
theorem Ju_3 {h : IH} {j : Nat} (hs : ShJu h j) : 3 ≤ j := hs.1
theorem Ju_t {h : IH} {j : Nat} (hs : ShJu h j) : hT h j = 10 := hs.2.1
theorem Ju_r0 {h : IH} {j : Nat} (hs : ShJu h j) : hR h j 0 = some (j + 1) := hs.2.2.1
theorem Ju_r1 {h : IH} {j : Nat} (hs : ShJu h j) : hR h j 1 = some (j + 2) := hs.2.2.2.1
theorem Ju_t1 {h : IH} {j : Nat} (hs : ShJu h j) : hT h (j + 1) = 0 := hs.2.2.2.2.1
theorem Ju_l1 {h : IH} {j : Nat} (hs : ShJu h j) : hL h (j + 1) = 9 := hs.2.2.2.2.2.1
theorem Ju_s2 {h : IH} {j : Nat} (hs : ShJu h j) : ShRk h (j + 2) := hs.2.2.2.2.2.2
def ShMo (h : IH) (v : Nat) : Prop := 3 ≤ v ∧ hT h v = 12 ∧ hR h v 0 = some (v + 1) ∧ hR h v 1 = some (v + 5) ∧ hT h (v + 5) = 0 ∧ hL h (v + 5) = 7 ∧ ShJu h (v + 1)
theorem Mo_3 {h : IH} {v : Nat} (hs : ShMo h v) : 3 ≤ v := hs.1
theorem Mo_t {h : IH} {v : Nat} (hs : ShMo h v) : hT h v = 12 := hs.2.1
theorem Mo_r0 {h : IH} {v : Nat} (hs : ShMo h v) : hR h v 0 = some (v + 1) := hs.2.2.1
theorem Mo_r1 {h : IH} {v : Nat} (hs : ShMo h v) : hR h v 1 = some (v + 5) := hs.2.2.2.1
theorem Mo_t5 {h : IH} {v : Nat} (hs : ShMo h v) : hT h (v + 5) = 0 := hs.2.2.2.2.1
theorem Mo_l5 {h : IH} {v : Nat} (hs : ShMo h v) : hL h (v + 5) = 7 := hs.2.2.2.2.2.1
theorem Mo_s1 {h : IH} {v : Nat} (hs : ShMo h v) : ShJu h (v + 1) := hs.2.2.2.2.2.2
def ShPs (h : IH) (p : Nat) : Prop := 3 ≤ p ∧ hT h p = 14 ∧ hR h p 2 = some (p + 1) ∧ hT h (p + 1) = 0 ∧ hL h (p + 1) = 1224
theorem Ps_3 {h : IH} {p : Nat} (hs : ShPs h p) : 3 ≤ p := hs.1
theorem Ps_t {h : IH} {p : Nat} (hs : ShPs h p) : hT h p = 14 := hs.2.1
theorem Ps_r2 {h : IH} {p : Nat} (hs : ShPs h p) : hR h p 2 = some (p + 1) := hs.2.2.1
theorem Ps_t1 {h : IH} {p : Nat} (hs : ShPs h p) : hT h (p + 1) = 0 := hs.2.2.2.1
theorem Ps_l1 {h : IH} {p : Nat} (hs : ShPs h p) : hL h (p + 1) = 1224 := hs.2.2.2.2
def ShTp (h : IH) (p : Nat) : Prop := 3 ≤ p ∧ hT h p = 18 ∧ hR h p 0 = some (p + 1) ∧ hT h (p + 1) = 0 ∧ hL h (p + 1) = 400
theorem Tp_3 {h : IH} {p : Nat} (hs : ShTp h p) : 3 ≤ p := hs.1
theorem Tp_t {h : IH} {p : Nat} (hs : ShTp h p) : hT h p = 18 := hs.2.1
theorem Tp_r0 {h : IH} {p : Nat} (hs : ShTp h p) : hR h p 0 = some (p + 1) := hs.2.2.1
theorem Tp_t1 {h : IH} {p : Nat} (hs : ShTp h p) : hT h (p + 1) = 0 := hs.2.2.2.1
theorem Tp_l1 {h : IH} {p : Nat} (hs : ShTp h p) : hL h (p + 1) = 400 := hs.2.2.2.2
def ShPa (h : IH) (p : Nat) : Prop := 3 ≤ p ∧ hT h p = 13 ∧ hR h p 0 = some (p + 1) ∧ hR h p 1 = some (p + 2) ∧ hR h p 2 = some (p + 3) ∧ hR h p 3 = some (p + 4) ∧ hR h p 4 = some (p + 5) ∧ hR h p 5 = some (p + 6) ∧ hT h (p + 1) = 0 ∧ hL h (p + 1) = 49 ∧ hT h (p + 2) = 0 ∧ hL h (p + 2) = 7 ∧ hT h (p + 3) = 0 ∧ hL h (p + 3) = 49 ∧ hT h (p + 4) = 0 ∧ hL h (p + 4) = 128 ∧ hT h (p + 5) = 0 ∧ hL h (p + 5) = 128 ∧ hT h (p + 6) = 0 ∧ hL h (p + 6) = 7
theorem Pa_3 {h : IH} {p : Nat} (hs : ShPa h p) : 3 ≤ p := hs.1
theorem Pa_t {h : IH} {p : Nat} (hs : ShPa h p) : hT h p = 13 := hs.2.1
theorem Pa_r0 {h : IH} {p : Nat} (hs : ShPa h p) : hR h p 0 = some (p + 1) := hs.2.2.1
theorem Pa_r1 {h : IH} {p : Nat} (hs : ShPa h p) : hR h p 1 = some (p + 2) := hs.2.2.2.1
theorem Pa_r2 {h : IH} {p : Nat} (hs : ShPa h p) : hR h p 2 = some (p + 3) := hs.2.2.2.2.1
theorem Pa_r3 {h : IH} {p : Nat} (hs : ShPa h p) : hR h p 3 = some (p + 4) := hs.2.2.2.2.2.1
theorem Pa_r4 {h : IH} {p : Nat} (hs : ShPa h p) : hR h p 4 = some (p + 5) := hs.2.2.2.2.2.2.1
theorem Pa_r5 {h : IH} {p : Nat} (hs : ShPa h p) : hR h p 5 = some (p + 6) := hs.2.2.2.2.2.2.2.1
theorem Pa_t1 {h : IH} {p : Nat} (hs : ShPa h p) : hT h (p + 1) = 0 := hs.2.2.2.2.2.2.2.2.1
theorem Pa_l1 {h : IH} {p : Nat} (hs : ShPa h p) : hL h (p + 1) = 49 := hs.2.2.2.2.2.2.2.2.2.1
theorem Pa_t2 {h : IH} {p : Nat} (hs : ShPa h p) : hT h (p + 2) = 0 := hs.2.2.2.2.2.2.2.2.2.2.1
theorem Pa_l2 {h : IH} {p : Nat} (hs : ShPa h p) : hL h (p + 2) = 7 := hs.2.2.2.2.2.2.2.2.2.2.2.1
theorem Pa_t3 {h : IH} {p : Nat} (hs : ShPa h p) : hT h (p + 3) = 0 := hs.2.2.2.2.2.2.2.2.2.2.2.2.1
theorem Pa_l3 {h : IH} {p : Nat} (hs : ShPa h p) : hL h (p + 3) = 49 := hs.2.2.2.2.2.2.2.2.2.2.2.2.2.1
theorem Pa_t4 {h : IH} {p : Nat} (hs : ShPa h p) : hT h (p + 4) = 0 := hs.2.2.2.2.2.2.2.2.2.2.2.2.2.2.1
theorem Pa_l4 {h : IH} {p : Nat} (hs : ShPa h p) : hL h (p + 4) = 128 := hs.2.2.2.2.2.2.2.2.2.2.2.2.2.2.2.1
theorem Pa_t5 {h : IH} {p : Nat} (hs : ShPa h p) : hT h (p + 5) = 0 := hs.2.2.2.2.2.2.2.2.2.2.2.2.2.2.2.2.1
theorem Pa_l5 {h : IH} {p : Nat} (hs : ShPa h p) : hL h (p + 5) = 128 := hs.2.2.2.2.2.2.2.2.2.2.2.2.2.2.2.2.2.1
theorem Pa_t6 {h : IH} {p : Nat} (hs : ShPa h p) : hT h (p + 6) = 0 := hs.2.2.2.2.2.2.2.2.2.2.2.2.2.2.2.2.2.2.1
theorem Pa_l6 {h : IH} {p : Nat} (hs : ShPa h p) : hL h (p + 6) = 7 := hs.2.2.2.2.2.2.2.2.2.2.2.2.2.2.2.2.2.2.2
def ShTx (h : IH) (x : Nat) : Prop := 3 ≤ x ∧ hT h x = 19 ∧ hR h x 0 = some (x + 1) ∧ hR h x 1 = some (x + 2) ∧ hR h x 2 = some (x + 3) ∧ hR h x 3 = some (x + 4) ∧ hR h x 4 = some (x + 5) ∧ hR h x 5 = some (x + 6)
theorem Tx_3 {h : IH} {x : Nat} (hs : ShTx h x) : 3 ≤ x := hs.1
theorem Tx_t {h : IH} {x : Nat} (hs : ShTx h x) : hT h x = 19 := hs.2.1
theorem Tx_r0 {h : IH} {x : Nat} (hs : ShTx h x) : hR h x 0 = some (x + 1) := hs.2.2.1
theorem Tx_r1 {h : IH} {x : Nat} (hs : ShTx h x) : hR h x 1 = some (x + 2) := hs.2.2.2.1
theorem Tx_r2 {h : IH} {x : Nat} (hs : ShTx h x) : hR h x 2 = some (x + 3) := hs.2.2.2.2.1
theorem Tx_r3 {h : IH} {x : Nat} (hs : ShTx h x) : hR h x 3 = some (x + 4) := hs.2.2.2.2.2.1
theorem Tx_r4 {h : IH} {x : Nat} (hs : ShTx h x) : hR h x 4 = some (x + 5) := hs.2.2.2.2.2.2.1
theorem Tx_r5 {h : IH} {x : Nat} (hs : ShTx h x) : hR h x 5 = some (x + 6) := hs.2.2.2.2.2.2.2
section P28
variable {d : Nat} {h : IH} {I J : Nat → Nat → Int} {a j p v : Nat}
theorem s_nearest (h : IH) (x y : Int) : rn (d + 1) 7 [iI x, iI y] h = some (oI (imax 0 (imin x y)), h) := by
  rw [r_Ju_nearest, e_Ju_nearest]
/-- the nine words of a LAW, asked of a town t and a sunday s, that is, or would be, at c -/
def wordsOf (I : Nat → Nat → Int) (a : Nat) (t s c : Int) (k : Nat) : Int := match k with
  | 0 => t
  | 1 => s
  | 2 => I (a + 3) s.toNat
  | 3 => I (a + 4) s.toNat
  | 4 => if t = s then 1 else 0
  | 5 => I (a + 5) (t * 7 + s).toNat
  | 6 => I (a + 6) (c * 7 + t).toNat
  | 7 => I (a + 8) 0
  | _ => I (a + 8) 2
/-- the row b, its first n places told by f -/
def rowUp (I : Nat → Nat → Int) (b n : Nat) (f : Nat → Int) : Nat → Nat → Int := fun q k => if q = b ∧ k < n then f k else I q k
theorem s_setWords (hl : ShLand h a) (hj : ShJu h j) (hd : a + 11 < j ∨ j + 1 < a) {t s c : Int} (ht : 0 ≤ t ∧ t < 7) (hs : 0 ≤ s ∧ s < 7) (hc : 0 ≤ c ∧ c < 7) : rn (d + 2) 5 [iR (some j), iR (some a), iI t, iI s, iI c] (st h I J) = some (o0, st h (rowUp I (j + 1) 9 (wordsOf I a t s c)) J) := by
  have a3 := La_3 hl
  have j3 := Ju_3 hj
  have key : st h (rowUp I (j + 1) 9 (wordsOf I a t s c)) J = st h (up (up (up (up (up (up (up (up (up I (j + 1) 0 t) (j + 1) 1 s) (j + 1) 2 (I (a + 3) s.toNat)) (j + 1) 3 (I (a + 4) s.toNat)) (j + 1) 4 (if t = s then 1 else 0)) (j + 1) 5 (I (a + 5) (t * 7 + s).toNat)) (j + 1) 6 (I (a + 6) (c * 7 + t).toNat)) (j + 1) 7 (I (a + 8) 0)) (j + 1) 8 (I (a + 8) 2)) J := by
    congr 1
    funext q k
    unfold rowUp
    by_cases hq : q = j + 1
    · subst hq
      simp only [up_at, true_and]
      by_cases hk : k < 9
      · rw [if_pos hk]
        rcases (show k = 0 ∨ k = 1 ∨ k = 2 ∨ k = 3 ∨ k = 4 ∨ k = 5 ∨ k = 6 ∨ k = 7 ∨ k = 8 by omega) with rfl | rfl | rfl | rfl | rfl | rfl | rfl | rfl | rfl <;> rfl
      · rw [if_neg hk, if_neg (by omega), if_neg (by omega), if_neg (by omega), if_neg (by omega), if_neg (by omega), if_neg (by omega), if_neg (by omega), if_neg (by omega), if_neg (by omega)]
    · rw [if_neg (fun z => hq z.1)]
      simp only [up_na hq]
  rw [key, r_Ju_setWords, e_Ju_setWords]
  by_cases hts : t = s
  · simp only [if_pos hts]
    have f0 := La_t hl
    have f1 := La_r3 hl
    have f2 := La_r4 hl
    have f3 := La_t3 hl
    have f4 := La_t4 hl
    have f5 := Ju_t hj
    have f6 := Ju_r0 hj
    have f7 := Ju_t1 hj
    have g0 := La_l3 hl
    have g1 := La_l4 hl
    have g2 := Ju_l1 hj
    simp (disch := first | assumption | omega | (simp only [g0, g1, g2]; omega)) only [f0, f1, f2, f3, f4, f5, f6, f7, g0, g1, g2, Ju_3 hj, up_na (show a + 3 ≠ j + 1 by omega), up_na (show a + 4 ≠ j + 1 by omega), xB_s, yck, ygI, ygR0, ypI, yaI0, yaB0, yaJ0, yaR0, ysI0, ysB20, ysB30, ysJ0, yle0, ycp0, kI_o, kJ_o, kR_o, kV_o, xZ_0, xZ_1, xmI_ok, xdI_ok, wr_id, wl_id, Int.toNat_natCast, Int.zero_add, Int.toNat_zero]
    have f0 := La_t hl
    have f1 := La_r5 hl
    have f2 := La_r8 hl
    have f3 := La_t5 hl
    have f4 := La_t8 hl
    have f5 := Ju_t hj
    have f6 := Ju_r0 hj
    have f7 := Ju_t1 hj
    have g0 := La_l5 hl
    have g1 := La_l8 hl
    have g2 := Ju_l1 hj
    simp (disch := first | assumption | omega | (simp only [g0, g1, g2]; omega)) only [f0, f1, f2, f3, f4, f5, f6, f7, g0, g1, g2, e_Ju_setWords_53, s_milesBetween hl hc ht, up_na (show a + 5 ≠ j + 1 by omega), up_na (show a + 6 ≠ j + 1 by omega), up_na (show a + 8 ≠ j + 1 by omega), xB_s, yck, ygI, ygR0, ypI, yaI0, yaB0, yaJ0, yaR0, ysI0, ysB20, ysB30, ysJ0, yle0, ycp0, kI_o, kJ_o, kR_o, kV_o, xZ_0, xZ_1, xmI_ok, xdI_ok, wr_id, wl_id, Int.toNat_natCast, Int.zero_add, Int.toNat_zero]
    rfl
  · simp only [if_neg hts]
    have f0 := La_t hl
    have f1 := La_r3 hl
    have f2 := La_r4 hl
    have f3 := La_t3 hl
    have f4 := La_t4 hl
    have f5 := Ju_t hj
    have f6 := Ju_r0 hj
    have f7 := Ju_t1 hj
    have g0 := La_l3 hl
    have g1 := La_l4 hl
    have g2 := Ju_l1 hj
    simp (disch := first | assumption | omega | (simp only [g0, g1, g2]; omega)) only [f0, f1, f2, f3, f4, f5, f6, f7, g0, g1, g2, Ju_3 hj, up_na (show a + 3 ≠ j + 1 by omega), up_na (show a + 4 ≠ j + 1 by omega), xB_s, yck, ygI, ygR0, ypI, yaI0, yaB0, yaJ0, yaR0, ysI0, ysB20, ysB30, ysJ0, yle0, ycp0, kI_o, kJ_o, kR_o, kV_o, xZ_0, xZ_1, xmI_ok, xdI_ok, wr_id, wl_id, Int.toNat_natCast, Int.zero_add, Int.toNat_zero]
    have f0 := La_t hl
    have f1 := La_r5 hl
    have f2 := La_r8 hl
    have f3 := La_t5 hl
    have f4 := La_t8 hl
    have f5 := Ju_t hj
    have f6 := Ju_r0 hj
    have f7 := Ju_t1 hj
    have g0 := La_l5 hl
    have g1 := La_l8 hl
    have g2 := Ju_l1 hj
    simp (disch := first | assumption | omega | (simp only [g0, g1, g2]; omega)) only [f0, f1, f2, f3, f4, f5, f6, f7, g0, g1, g2, e_Ju_setWords_53, s_milesBetween hl hc ht, up_na (show a + 5 ≠ j + 1 by omega), up_na (show a + 6 ≠ j + 1 by omega), up_na (show a + 8 ≠ j + 1 by omega), xB_s, yck, ygI, ygR0, ypI, yaI0, yaB0, yaJ0, yaR0, ysI0, ysB20, ysB30, ysJ0, yle0, ycp0, kI_o, kJ_o, kR_o, kV_o, xZ_0, xZ_1, xmI_ok, xdI_ok, wr_id, wl_id, Int.toNat_natCast, Int.zero_add, Int.toNat_zero]
    rfl
theorem s_nextDrawn (h : IH) {x : Int} (hx : 0 ≤ x ∧ x < 1900000) : rn (d + 1) 26 [iI x] h = some (oI ((x * 1103 + 12345) % 1000003), h) := by
  rw [r_Mo_nextDrawn, e_Mo_nextDrawn, wr_id (x := x * 1103) (by omega) (by omega), wr_id (x := x * 1103 + 12345) (by omega) (by omega), xmI_ok (by omega)]
  have e : Int.tmod (x * 1103 + 12345) 1000003 = (x * 1103 + 12345) % 1000003 := Int.tmod_eq_emod_of_nonneg (by omega)
  rw [e, wr_id (by omega) (by omega)]
theorem s_pastClear (hp : ShPs h p) : rn (d + 1) 47 [iR (some p)] (st h I J) = some (o0, st h (up I p 0 0) J) := by
  rw [r_Ps_clear, e_Ps_clear, ypI (Ps_t hp) (Ps_3 hp)]
theorem s_keepPrepared (hp : ShPs h p) (hn : 0 ≤ I p 1 ∧ I p 1 < 17) (hk : 0 ≤ I p 0 ∧ I p 0 ≤ 16) : rn (d + 1) 50 [iR (some p)] (st h I J) = some (o0, st h (up (up I p 1 ((I p 1 + 1) % 17)) p 0 (if I p 0 < 16 then I p 0 + 1 else 16)) J) := by
  have e : Int.tmod (I p 1 + 1) 17 = (I p 1 + 1) % 17 := Int.tmod_eq_emod_of_nonneg (by omega)
  have e2 : imin (I p 0 + 1) 16 = (if I p 0 < 16 then I p 0 + 1 else 16) := by
    unfold imin
    split <;> split <;> omega
  rw [r_Ps_keepPrepared, e_Ps_keepPrepared, ygI (Ps_t hp), wr_id (by omega) (by omega), xmI_ok (by omega), e, wr_id (by omega) (by omega), ypI (Ps_t hp) (Ps_3 hp), ygI (Ps_t hp), up_ni (by omega), wr_id (by omega) (by omega), e2, ypI (Ps_t hp) (Ps_3 hp)]
/-- the row p + 1 with how the LAND a is, from the place f on -/
def prepI (I : Nat → Nat → Int) (p a : Nat) (f : Int) (kind : Int) : Nat → Nat → Int :=
  up (up (cpy (cpy (cpy (cpy I (a + 1) 0 (p + 1) f.toNat 7) (a + 3) 0 (p + 1) (f + 7).toNat 7) (a + 7) 0 (p + 1) (f + 14).toNat 7) (a + 5) 0 (p + 1) (f + 21).toNat 49) (p + 1) (f + 70).toNat (I (a + 8) 0)) (p + 1) (f + 71).toNat kind
theorem cpy_na {I : Nat → Nat → Int} {a i b j n q : Nat} (h : q ≠ b) : cpy I a i b j n q = I q := funext fun _ => if_neg fun z => h z.1
theorem s_prepare (hl : ShLand h a) (hp : ShPs h p) (hd : a + 11 < p ∨ p + 1 < a) (hn : 0 ≤ I p 1 ∧ I p 1 < 17) (kind : Int) : rn (d + 1) 49 [iR (some p), iR (some a), iI kind] (st h I J) = some (o0, st h (prepI I p a (I p 1 * 72) kind) J) := by
  have a3 := La_3 hl
  have p3 := Ps_3 hp
  rw [r_Ps_prepare, e_Ps_prepare]
  have f0 := La_t hl
  have f1 := La_r1 hl
  have f2 := La_r3 hl
  have f3 := La_r5 hl
  have f4 := La_r7 hl
  have f5 := La_r8 hl
  have f6 := La_t1 hl
  have f7 := La_t3 hl
  have f8 := La_t5 hl
  have f9 := La_t7 hl
  have f10 := La_t8 hl
  have f11 := Ps_t hp
  have f12 := Ps_r2 hp
  have f13 := Ps_t1 hp
  have g0 := La_l1 hl
  have g1 := La_l3 hl
  have g2 := La_l5 hl
  have g3 := La_l7 hl
  have g4 := La_l8 hl
  have g5 := Ps_l1 hp
  simp (disch := first | assumption | omega | (simp only [g0, g1, g2, g3, g4, g5]; omega)) only [f0, f1, f2, f3, f4, f5, f6, f7, f8, f9, f10, f11, f12, f13, g0, g1, g2, g3, g4, g5, e_Ps_prepare_102, cpy_na (show a + 8 ≠ p + 1 by omega), xB_s, yck, ygI, ygR0, ypI, yaI0, yaB0, yaJ0, yaR0, ysI0, ysB20, ysB30, ysJ0, yle0, ycp0, kI_o, kJ_o, kR_o, kV_o, xZ_0, xZ_1, xmI_ok, xdI_ok, wr_id, wl_id, Int.toNat_natCast, Int.zero_add, Int.toNat_zero]
  rfl
theorem s_hasRoom (hp : ShTp h p) (hn : 0 ≤ I p 1 ∧ I p 1 ≤ 400) : rn (d + 1) 80 [iR (some p)] (st h I J) = some (oI (if I p 1 + 20 ≤ 400 then 1 else 0), st h I J) := by
  rw [r_Tp_hasRoomForTwenty, e_Tp_hasRoomForTwenty, ygI (Tp_t hp), wr_id (by omega) (by omega)]
  split <;> rfl
end P28
