/-! The class's reader: the next token (by program, wip/whole/gen50.py) -/
theorem up_up (I : Nat → Nat → Int) (a i : Nat) (x y : Int) : up (up I a i x) a i y = up I a i y := by
  funext q k
  unfold up
  by_cases z : q = a ∧ k = i
  · rw [if_pos z, if_pos z]
  · rw [if_neg z, if_neg z, if_neg z]
def spB (x : Int) : Bool := decide (x = 32)
def dgB (x : Int) : Bool := decide (48 ≤ x ∧ x ≤ 57)
def ltB (x : Int) : Bool := decide (97 ≤ x ∧ x ≤ 122)
/-- how far a row of bytes of a kind goes -/
def scn (P : Int → Bool) (B : Nat → Int) (n : Nat) : Nat → Nat → Nat
  | 0, p => p
  | k + 1, p => if p < n ∧ P (B p) = true then scn P B n k (p + 1) else p
def scT (P : Int → Bool) (B : Nat → Int) (n p : Nat) : Nat := scn P B n (n - p) p
theorem scT_s {P : Int → Bool} {B : Nat → Int} {n p : Nat} (h : p < n) (q : P (B p) = true) : scT P B n p = scT P B n (p + 1) := by
  unfold scT
  rw [show n - p = (n - (p + 1)) + 1 by omega, scn, if_pos ⟨h, q⟩]
theorem scT_e {P : Int → Bool} {B : Nat → Int} {n p : Nat} (h : ¬ (p < n ∧ P (B p) = true)) : scT P B n p = p := by
  unfold scT
  cases n - p with
  | zero => rfl
  | succ k => rw [scn, if_neg h]
theorem scn_ge {P : Int → Bool} {B : Nat → Int} {n : Nat} : ∀ k p, p ≤ scn P B n k p
  | 0, p => Nat.le_refl _
  | k + 1, p => by
    unfold scn
    split
    · have := scn_ge (P := P) (B := B) (n := n) k (p + 1)
      omega
    · exact Nat.le_refl _
theorem scn_le {P : Int → Bool} {B : Nat → Int} {n : Nat} : ∀ k p, p ≤ n → scn P B n k p ≤ n
  | 0, p, h => h
  | k + 1, p, h => by
    unfold scn
    split
    · rename_i q
      exact scn_le k (p + 1) (by omega)
    · exact h
theorem scT_ge (P : Int → Bool) (B : Nat → Int) (n p : Nat) : p ≤ scT P B n p := scn_ge _ _
theorem scT_le (P : Int → Bool) (B : Nat → Int) {n p : Nat} (h : p ≤ n) : scT P B n p ≤ n := scn_le _ _ h
/-- the number of digits, one above the most stands for all that are too high -/
def dgn (B : Nat → Int) (n : Nat) : Nat → Nat → Int → Int
  | 0, _, v => v
  | k + 1, p, v => if p < n ∧ dgB (B p) = true then dgn B n k (p + 1) (imin (v * 10 + B p - 48) 1001) else v
def dgV (B : Nat → Int) (n p : Nat) (v : Int) : Int := dgn B n (n - p) p v
theorem dgV_s {B : Nat → Int} {n p : Nat} {v : Int} (h : p < n) (q : dgB (B p) = true) : dgV B n p v = dgV B n (p + 1) (imin (v * 10 + B p - 48) 1001) := by
  unfold dgV
  rw [show n - p = (n - (p + 1)) + 1 by omega, dgn, if_pos ⟨h, q⟩]
theorem dgV_e {B : Nat → Int} {n p : Nat} {v : Int} (h : ¬ (p < n ∧ dgB (B p) = true)) : dgV B n p v = v := by
  unfold dgV
  cases n - p with
  | zero => rfl
  | succ k => rw [dgn, if_neg h]
/-- the token behind the place p: where it begins, where it ends, what it is, its number -/
def tkF (B : Nat → Int) (n p : Nat) : Nat := scT spB B n p
def tkD (B : Nat → Int) (n p : Nat) : Nat := scT dgB B n (tkF B n p)
def tkL (B : Nat → Int) (n p : Nat) : Nat := scT ltB B n (tkF B n p)
def tkE (B : Nat → Int) (n p : Nat) : Nat := if tkF B n p < tkD B n p then tkD B n p else if tkF B n p < n then (if tkF B n p < tkL B n p then tkL B n p else tkF B n p + 1) else tkF B n p
def tkC (B : Nat → Int) (n p : Nat) : Int := if tkF B n p < tkD B n p then 1000 else if tkF B n p < n then (if tkF B n p < tkL B n p then wordL B (tkF B n p) (tkL B n p) wordTb 256 else B (tkF B n p)) else 1001
def tkV (B : Nat → Int) (n p : Nat) : Int := dgV B n (tkF B n p) 0
/-- the reader has the token behind p -/
def tkI (I : Nat → Nat → Int) (B : Nat → Int) (n p : Nat) : Nat → Nat → Int := up (up (up (up I 43 6 (tkF B n p)) 43 8 (tkV B n p)) 43 5 (tkC B n p)) 43 7 (tkE B n p)
section P50
variable {d n : Nat} {h : IH} {J : Nat → Nat → Int} {B : Nat → Int}
theorem l_skip (s : ShT h) (rb : hR h 43 2 = some 42) (hn : n ≤ 400) {I : Nat → Nat → Int} (eB : I 42 = B) (en : I 43 3 = n) : ∀ (k p m : Nat), p + k = n → lp d 54 (m + (n - p) + 1) 5 [some (iR (some 43)), some (iI p)] [] (st h I J) = lp d 54 (m + (n - tkF B n p)) 40 [some (iR (some 43)), some (iI (tkF B n p))] [] (st h (up (up I 43 6 (tkF B n p)) 43 8 0) J) := by
  intro k
  induction k with
  | zero =>
    intro p m hk
    have e : tkF B n p = p := scT_e (by omega)
    rw [e, e_Rd_nextToken_5, ygI (aT_43 s), en, if_neg (by omega), ypI (aT_43 s) (by omega), ypI (aT_43 s) (by omega)]
  | succ k ih =>
    intro p m hk
    rw [e_Rd_nextToken_5, ygI (aT_43 s), en, if_pos (by omega), ygR (aT_43 s) rb, xB_s, yaN (aT_42 s) (aL_42 s) (by omega), eB]
    by_cases c : B p = 32
    · have e : tkF B n p = tkF B n (p + 1) := scT_s (by omega) (decide_eq_true c)
      rw [if_pos c, wr_id (by omega) (by omega), show m + (n - p) = m + (n - (p + 1)) + 1 by omega, e]
      exact ih (p + 1) m (by omega)
    · have e : tkF B n p = p := scT_e (fun z => c (of_decide_eq_true z.2))
      rw [if_neg c, ypI (aT_43 s) (by omega), ypI (aT_43 s) (by omega), e]
theorem l_digs (s : ShT h) (rb : hR h 43 2 = some 42) (hn : n ≤ 400) (hB : ∀ i, 0 ≤ B i ∧ B i ≤ 255) {I : Nat → Nat → Int} (eB : I 42 = B) (en : I 43 3 = n) : ∀ (k p m : Nat) (v : Int), p + k = n → 0 ≤ v ∧ v ≤ 1001 → lp d 54 (m + (n - p) + 1) 40 [some (iR (some 43)), some (iI p)] [] (st h (up I 43 8 v) J) = lp d 54 (m + (n - scT dgB B n p)) 103 [some (iR (some 43)), some (iI (scT dgB B n p))] [] (st h (up I 43 8 (dgV B n p v)) J) := by
  intro k
  induction k with
  | zero =>
    intro p m v hk hv
    rw [scT_e (by omega), dgV_e (by omega), e_Rd_nextToken_40, ygI (aT_43 s), up_ni (by omega), en, if_neg (by omega)]
  | succ k ih =>
    intro p m v hk hv
    have hb := hB p
    rw [e_Rd_nextToken_40, ygI (aT_43 s), up_ni (by omega), en, if_pos (by omega), ygR (aT_43 s) rb, xB_s, yaN (aT_42 s) (aL_42 s) (by omega), up_na (by omega), eB]
    by_cases c : B p < 48
    · have q : ¬ (p < n ∧ dgB (B p) = true) := fun z => by have := of_decide_eq_true z.2; omega
      rw [if_pos c, scT_e q, dgV_e q]
    · rw [if_neg c, ygR (aT_43 s) rb, xB_s, yaN (aT_42 s) (aL_42 s) (by omega), up_na (by omega), eB]
      by_cases c2 : B p ≤ 57
      · have q : dgB (B p) = true := decide_eq_true ⟨by omega, c2⟩
        have hi : 0 ≤ imin (v * 10 + B p - 48) 1001 ∧ imin (v * 10 + B p - 48) 1001 ≤ 1001 := by
          unfold imin
          split <;> omega
        rw [if_pos c2, ygI (aT_43 s), up_eq, ygR (aT_43 s) rb, xB_s, yaN (aT_42 s) (aL_42 s) (by omega), up_na (by omega), eB, wr_id (x := v * 10) (by omega) (by omega), wr_id (x := v * 10 + B p) (by omega) (by omega), wr_id (x := v * 10 + B p - 48) (by omega) (by omega), ypI (aT_43 s) (by omega), up_up, wr_id (by omega) (by omega), show m + (n - p) = m + (n - (p + 1)) + 1 by omega, scT_s (by omega) q, dgV_s (by omega) q]
        exact ih (p + 1) m _ (by omega) hi
      · have q : ¬ (p < n ∧ dgB (B p) = true) := fun z => by have := of_decide_eq_true z.2; omega
        rw [if_neg c2, scT_e q, dgV_e q]
theorem l_lets (s : ShT h) (rb : hR h 43 2 = some 42) (hn : n ≤ 400) {I : Nat → Nat → Int} (eB : I 42 = B) (en : I 43 3 = n) : ∀ (k p m : Nat), p + k = n → lp d 54 (m + (n - p) + 1) 152 [some (iR (some 43)), some (iI p)] [] (st h I J) = lp d 54 (m + (n - scT ltB B n p)) 188 [some (iR (some 43)), some (iI (scT ltB B n p))] [] (st h I J) := by
  intro k
  induction k with
  | zero =>
    intro p m hk
    rw [scT_e (by omega), e_Rd_nextToken_152, ygI (aT_43 s), en, if_neg (by omega)]
  | succ k ih =>
    intro p m hk
    rw [e_Rd_nextToken_152, ygI (aT_43 s), en, if_pos (by omega), ygR (aT_43 s) rb, xB_s, yaN (aT_42 s) (aL_42 s) (by omega), eB]
    by_cases c : B p < 97
    · have q : ¬ (p < n ∧ ltB (B p) = true) := fun z => by have := of_decide_eq_true z.2; omega
      rw [if_pos c, scT_e q]
    · rw [if_neg c, ygR (aT_43 s) rb, xB_s, yaN (aT_42 s) (aL_42 s) (by omega), eB]
      by_cases c2 : B p ≤ 122
      · have q : ltB (B p) = true := decide_eq_true ⟨by omega, c2⟩
        rw [if_pos c2, wr_id (by omega) (by omega), show m + (n - p) = m + (n - (p + 1)) + 1 by omega, scT_s (by omega) q]
        exact ih (p + 1) m (by omega)
      · have q : ¬ (p < n ∧ ltB (B p) = true) := fun z => by have := of_decide_eq_true z.2; omega
        rw [if_neg c2, scT_e q]
theorem s_nextToken (s : ShT h) (rb : hR h 43 2 = some 42) (hn : n ≤ 400) (hB : ∀ i, 0 ≤ B i ∧ B i ≤ 255) {I : Nat → Nat → Int} (eB : I 42 = B) (en : I 43 3 = n) {p : Nat} (ep : I 43 7 = p) (hp : p ≤ n) : rn (d + 2) 54 [iR (some 43)] (st h I J) = some (o0, st h (tkI I B n p) J) := by
  have f1 : tkF B n p ≤ n := scT_le _ _ hp
  have d1 : tkF B n p ≤ tkD B n p := scT_ge _ _ _ _
  have d2 : tkD B n p ≤ n := scT_le _ _ f1
  have g1 : tkF B n p ≤ tkL B n p := scT_ge _ _ _ _
  have g2 : tkL B n p ≤ n := scT_le _ _ f1
  have a1 := l_skip (d := d + 1) (J := J) s rb hn eB en (n - p) p (999998 - (n - p)) (by omega)
  have a2 := l_digs (d := d + 1) (J := J) (I := up I 43 6 (tkF B n p)) s rb hn hB (by rw [up_na (by omega)]; exact eB) (by rw [up_ni (by omega)]; exact en) (n - tkF B n p) (tkF B n p) (999997 - (n - p)) 0 (by omega) (by omega)
  rw [show 999998 - (n - p) + (n - p) + 1 = 999999 by omega] at a1
  rw [show 999997 - (n - p) + (n - tkF B n p) + 1 = 999998 - (n - p) + (n - tkF B n p) by omega] at a2
  rw [r_Rd_nextToken, e_Rd_nextToken, ygI (aT_43 s), ep, a1, a2]
  have a3 : scT dgB B n (tkF B n p) = tkD B n p := rfl
  have a4 : dgV B n (tkF B n p) 0 = tkV B n p := rfl
  rw [a3, a4, show 999997 - (n - p) + (n - tkD B n p) = 999996 - (n - p) + (n - tkD B n p) + 1 by omega, e_Rd_nextToken_103, ygI (aT_43 s), up_ni (by omega), up_eq]
  unfold tkI tkE tkC
  by_cases c1 : tkF B n p < tkD B n p
  · rw [if_neg (by omega), if_pos c1, if_pos c1, ypI (aT_43 s) (by omega), ygI (aT_43 s), up_eq, if_neg (by omega), ypI (aT_43 s) (by omega)]
  · have e0 : tkD B n p = tkF B n p := by omega
    rw [if_pos (by omega), if_neg c1, if_neg c1, ypI (aT_43 s) (by omega), ygI (aT_43 s), up_eq, if_pos rfl, ygI (aT_43 s), up_ni (by omega), up_ni (by omega), up_ni (by omega), en, e0]
    by_cases c2 : tkF B n p < n
    · rw [if_pos (by omega), if_pos c2, if_pos c2, ygR (aT_43 s) rb, xB_s, yaN (aT_42 s) (aL_42 s) (by omega), up_na (by omega), up_na (by omega), up_na (by omega), eB, ypI (aT_43 s) (by omega), up_up]
      have a5 := l_lets (B := B) (d := d + 1) (J := J) (I := up (up (up I 43 6 (tkF B n p)) 43 8 (tkV B n p)) 43 5 (B (tkF B n p))) s rb hn (by rw [up_na (by omega), up_na (by omega), up_na (by omega)]; exact eB) (by rw [up_ni (by omega), up_ni (by omega), up_ni (by omega)]; exact en) (n - tkF B n p) (tkF B n p) (999995 - (n - p)) (by omega)
      rw [show 999995 - (n - p) + (n - tkF B n p) + 1 = 999996 - (n - p) + (n - tkF B n p) by omega, show scT ltB B n (tkF B n p) = tkL B n p from rfl] at a5
      rw [a5, show 999995 - (n - p) + (n - tkL B n p) = 999994 - (n - p) + (n - tkL B n p) + 1 by omega, e_Rd_nextToken_188, ygI (aT_43 s), up_ni (by omega), up_ni (by omega), up_eq]
      by_cases c3 : tkF B n p < tkL B n p
      · rw [if_neg (by omega), if_pos c3, if_pos c3, yck (aT_43 s), s_wordUpTo s rb (f := tkF B n p) (by rw [up_ni (by omega), up_ni (by omega), up_eq]) (by omega) (by omega), kI_o, up_na (by omega), up_na (by omega), up_na (by omega), eB, ypI (aT_43 s) (by omega), up_up, ypI (aT_43 s) (by omega)]
      · have e1 : tkL B n p = tkF B n p := by omega
        rw [if_pos (by omega), if_neg c3, if_neg c3, e1, wr_id (by omega) (by omega), ypI (aT_43 s) (by omega)]
        rfl
    · rw [if_neg (by omega), if_neg c2, if_neg c2, ypI (aT_43 s) (by omega)]
end P50
