/-! Constructors (by program, wip/whole/gen35.py) -/
def mkc (h : IH) (c t n : Nat) : IH := ((c + 1, h.1.2 + n), (fun b => if b = c then t else h.2.1 b), (fun b => if b = c then n else h.2.2.1 b), h.2.2.2.1, h.2.2.2.2.1, (fun b j => if b = c then none else h.2.2.2.2.2 b j))
def pR (h : IH) (a f : Nat) (o : Option Nat) : IH := sR h (upR (hR h) a f o)
def clr (I : Nat → Nat → Int) (c : Nat) : Nat → Nat → Int := fun b => if b = c then fun _ => 0 else I b
theorem mk_st {h : IH} {I J : Nat → Nat → Int} {c : Nat} (e : hN h = c) (t n : Nat) : mk (st h I J) t n = st (mkc h c t n) (clr I c) (clr J c) := by
  subst e
  have q : ∀ I : Nat → Nat → Int, (fun b j => if b = hN h then 0 else I b j) = clr I (hN h) := by
    intro I
    funext b j
    unfold clr
    by_cases z : b = hN h
    · rw [if_pos z, if_pos z]
    · rw [if_neg z, if_neg z]
  show ((hN h + 1, hS h + n), (fun b => if b = hN h then t else hT h b), (fun b => if b = hN h then n else hL h b), (fun b j => if b = hN h then 0 else I b j), (fun b j => if b = hN h then 0 else J b j), (fun b j => if b = hN h then none else hR h b j)) = _
  rw [q I, q J]
  rfl
section P35a
variable {h : IH} {I J : Nat → Nat → Int} {a b c t f i ci : Nat} {n : Int} {o : Option Nat}
theorem cOb {k : Nat → IH → Option IR} {m : Nat} (e : hN h = c) (q : 10 + ci = t) (q2 : am_nf ci = m) : xnO (st h I J) ci k = k c (st (mkc h c t m) (clr I c) (clr J c)) := by
  subst q q2
  show k (hN h) (mk (st h I J) (10 + ci) (am_nf ci)) = _
  rw [mk_st e, e]
theorem cAl {k : Nat → IH → Option IR} {m : Nat} (e : hN h = c) (q : n = (m : Int)) (z : m ≤ 1000000) : xnA (st h I J) t n k = k c (st (mkc h c t m) (clr I c) (clr J c)) := by
  subst q
  show (if 0 ≤ (m : Int) ∧ (m : Int) ≤ 1000000 then k (hN h) (mk (st h I J) t (m : Int).toNat) else none) = _
  rw [if_pos ⟨by omega, by omega⟩, mk_st e, e, Int.toNat_natCast]
theorem cPut {k : IH → Option IR} (e : hT h a = t) (e3 : 3 ≤ a) : xpR (st h I J) a t f o k = k (st (pR h a f o) I J) := if_pos ⟨e, e3⟩
theorem mkc_N (n : Nat) : hN (mkc h c t n) = c + 1 := rfl
theorem mkc_S (n : Nat) : hS (mkc h c t n) = hS h + n := rfl
theorem mkc_Te (n : Nat) : hT (mkc h c t n) c = t := if_pos rfl
theorem mkc_Le (n : Nat) : hL (mkc h c t n) c = n := if_pos rfl
theorem mkc_Re (n : Nat) : hR (mkc h c t n) c = fun _ => none := funext fun _ => if_pos rfl
theorem mkc_Tn {n : Nat} (z : b ≠ c) : hT (mkc h c t n) b = hT h b := if_neg z
theorem mkc_Ln {n : Nat} (z : b ≠ c) : hL (mkc h c t n) b = hL h b := if_neg z
theorem mkc_Rn {n : Nat} (z : b ≠ c) : hR (mkc h c t n) b = hR h b := funext fun _ => if_neg z
theorem pR_N : hN (pR h a f o) = hN h := rfl
theorem pR_S : hS (pR h a f o) = hS h := rfl
theorem pR_T : hT (pR h a f o) = hT h := rfl
theorem pR_L : hL (pR h a f o) = hL h := rfl
theorem pR_Re : hR (pR h a f o) a f = o := upR_eq _ _ _ _
theorem pR_Ri (z : i ≠ f) : hR (pR h a f o) b i = hR h b i := upR_ni z
theorem pR_Rn (z : b ≠ a) : hR (pR h a f o) b = hR h b := upR_na z
theorem clr_e : clr I c c = fun _ => 0 := if_pos rfl
theorem clr_n (z : b ≠ c) : clr I c b = I b := if_neg z
end P35a
/-- all below n is the same -/
def cKp (h : IH) (I J : Nat → Nat → Int) (h' : IH) (I' J' : Nat → Nat → Int) (n : Nat) : Prop := ∀ b, b < n → hT h' b = hT h b ∧ hL h' b = hL h b ∧ hR h' b = hR h b ∧ I' b = I b ∧ J' b = J b
theorem Rk_tr {h h' : IH} {a : Nat} (hs : ShRk h a) (q : ∀ b, a ≤ b → b < a + 2 → hT h' b = hT h b ∧ hL h' b = hL h b ∧ hR h' b = hR h b) : ShRk h' a := by
  have t0 := q a (by omega) (by omega)
  have t1 := q (a + 1) (by omega) (by omega)
  unfold ShRk at *
  simp only [t0.1, t0.2.1, t0.2.2, t1.1, t1.2.1, t1.2.2]
  exact hs
theorem Ps_tr {h h' : IH} {a : Nat} (hs : ShPs h a) (q : ∀ b, a ≤ b → b < a + 2 → hT h' b = hT h b ∧ hL h' b = hL h b ∧ hR h' b = hR h b) : ShPs h' a := by
  have t0 := q a (by omega) (by omega)
  have t1 := q (a + 1) (by omega) (by omega)
  unfold ShPs at *
  simp only [t0.1, t0.2.1, t0.2.2, t1.1, t1.2.1, t1.2.2]
  exact hs
theorem Tp_tr {h h' : IH} {a : Nat} (hs : ShTp h a) (q : ∀ b, a ≤ b → b < a + 2 → hT h' b = hT h b ∧ hL h' b = hL h b ∧ hR h' b = hR h b) : ShTp h' a := by
  have t0 := q a (by omega) (by omega)
  have t1 := q (a + 1) (by omega) (by omega)
  unfold ShTp at *
  simp only [t0.1, t0.2.1, t0.2.2, t1.1, t1.2.1, t1.2.2]
  exact hs
theorem Pa_tr {h h' : IH} {a : Nat} (hs : ShPa h a) (q : ∀ b, a ≤ b → b < a + 7 → hT h' b = hT h b ∧ hL h' b = hL h b ∧ hR h' b = hR h b) : ShPa h' a := by
  have t0 := q a (by omega) (by omega)
  have t1 := q (a + 1) (by omega) (by omega)
  have t2 := q (a + 2) (by omega) (by omega)
  have t3 := q (a + 3) (by omega) (by omega)
  have t4 := q (a + 4) (by omega) (by omega)
  have t5 := q (a + 5) (by omega) (by omega)
  have t6 := q (a + 6) (by omega) (by omega)
  unfold ShPa at *
  simp only [t0.1, t0.2.1, t0.2.2, t1.1, t1.2.1, t1.2.2, t2.1, t2.2.1, t2.2.2, t3.1, t3.2.1, t3.2.2, t4.1, t4.2.1, t4.2.2, t5.1, t5.2.1, t5.2.2, t6.1, t6.2.1, t6.2.2]
  exact hs
theorem Tx_tr {h h' : IH} {a : Nat} (hs : ShTx h a) (q : ∀ b, a ≤ b → b < a + 7 → hT h' b = hT h b ∧ hL h' b = hL h b ∧ hR h' b = hR h b) : ShTx h' a := by
  have t0 := q a (by omega) (by omega)
  have t1 := q (a + 1) (by omega) (by omega)
  have t2 := q (a + 2) (by omega) (by omega)
  have t3 := q (a + 3) (by omega) (by omega)
  have t4 := q (a + 4) (by omega) (by omega)
  have t5 := q (a + 5) (by omega) (by omega)
  have t6 := q (a + 6) (by omega) (by omega)
  unfold ShTx at *
  simp only [t0.1, t0.2.1, t0.2.2, t1.1, t1.2.1, t1.2.2, t2.1, t2.2.1, t2.2.2, t3.1, t3.2.1, t3.2.2, t4.1, t4.2.1, t4.2.2, t5.1, t5.2.1, t5.2.2, t6.1, t6.2.1, t6.2.2]
  exact hs
theorem La_tr {h h' : IH} {a : Nat} (hs : ShLand h a) (q : ∀ b, a ≤ b → b < a + 12 → hT h' b = hT h b ∧ hL h' b = hL h b ∧ hR h' b = hR h b) : ShLand h' a := by
  have t0 := q a (by omega) (by omega)
  have t1 := q (a + 1) (by omega) (by omega)
  have t2 := q (a + 2) (by omega) (by omega)
  have t3 := q (a + 3) (by omega) (by omega)
  have t4 := q (a + 4) (by omega) (by omega)
  have t5 := q (a + 5) (by omega) (by omega)
  have t6 := q (a + 6) (by omega) (by omega)
  have t7 := q (a + 7) (by omega) (by omega)
  have t8 := q (a + 8) (by omega) (by omega)
  have t9 := q (a + 9) (by omega) (by omega)
  have t10 := q (a + 10) (by omega) (by omega)
  have t11 := q (a + 11) (by omega) (by omega)
  unfold ShLand at *
  simp only [t0.1, t0.2.1, t0.2.2, t1.1, t1.2.1, t1.2.2, t2.1, t2.2.1, t2.2.2, t3.1, t3.2.1, t3.2.2, t4.1, t4.2.1, t4.2.2, t5.1, t5.2.1, t5.2.2, t6.1, t6.2.1, t6.2.2, t7.1, t7.2.1, t7.2.2, t8.1, t8.2.1, t8.2.2, t9.1, t9.2.1, t9.2.2, t10.1, t10.2.1, t10.2.2, t11.1, t11.2.1, t11.2.2]
  exact hs
theorem Ju_tr {h h' : IH} {a : Nat} (hs : ShJu h a) (q : ∀ b, a ≤ b → b < a + 4 → hT h' b = hT h b ∧ hL h' b = hL h b ∧ hR h' b = hR h b) : ShJu h' a := by
  have t0 := q a (by omega) (by omega)
  have t1 := q (a + 1) (by omega) (by omega)
  obtain ⟨g1, g2, g3, g4, g5, g6, g7⟩ := hs
  refine ⟨g1, by rw [t0.1, g2], by rw [t0.2.2, g3], by rw [t0.2.2, g4], by rw [t1.1, g5], by rw [t1.2.1, g6], Rk_tr g7 fun b b1 b2 => q b (by omega) (by omega)⟩
theorem Mo_tr {h h' : IH} {a : Nat} (hs : ShMo h a) (q : ∀ b, a ≤ b → b < a + 6 → hT h' b = hT h b ∧ hL h' b = hL h b ∧ hR h' b = hR h b) : ShMo h' a := by
  have t0 := q a (by omega) (by omega)
  have t5 := q (a + 5) (by omega) (by omega)
  obtain ⟨g1, g2, g3, g4, g5, g6, g7⟩ := hs
  refine ⟨g1, by rw [t0.1, g2], by rw [t0.2.2, g3], by rw [t0.2.2, g4], by rw [t5.1, g5], by rw [t5.2.1, g6], Ju_tr g7 fun b b1 b2 => q b (by omega) (by omega)⟩
/-- a RUNNER stands at r -/
def ShRn (h : IH) (r : Nat) : Prop := 3 ≤ r ∧ hT h r = 17 ∧ hR h r 2 = some (r + 1) ∧ hR h r 3 = some (r + 7) ∧ hR h r 4 = some (r + 8) ∧ hT h (r + 7) = 0 ∧ hL h (r + 7) = 18 ∧ ShMo h (r + 1) ∧ ShRk h (r + 8)
theorem Rn_tr {h h' : IH} {a : Nat} (hs : ShRn h a) (q : ∀ b, a ≤ b → b < a + 10 → hT h' b = hT h b ∧ hL h' b = hL h b ∧ hR h' b = hR h b) : ShRn h' a := by
  have t0 := q a (by omega) (by omega)
  have t7 := q (a + 7) (by omega) (by omega)
  obtain ⟨g1, g2, g3, g4, g5, g6, g7, g8, g9⟩ := hs
  refine ⟨g1, by rw [t0.1, g2], by rw [t0.2.2, g3], by rw [t0.2.2, g4], by rw [t0.2.2, g5], by rw [t7.1, g6], by rw [t7.2.1, g7], Mo_tr g8 fun b b1 b2 => q b (by omega) (by omega), Rk_tr g9 fun b b1 b2 => q b (by omega) (by omega)⟩
/-- the rows of a TEXT with room for n steps and m CLAUSES -/
def TxRw (h : IH) (x n m : Nat) : Prop := ShTx h x ∧ (hT h (x + 1) = 0 ∧ hL h (x + 1) = n) ∧ (hT h (x + 2) = 0 ∧ hL h (x + 2) = n) ∧ (hT h (x + 3) = 0 ∧ hL h (x + 3) = m) ∧ (hT h (x + 4) = 0 ∧ hL h (x + 4) = m) ∧ (hT h (x + 5) = 0 ∧ hL h (x + 5) = 4 * m) ∧ (hT h (x + 6) = 0 ∧ hL h (x + 6) = 4 * m)
theorem TxRw_tr {h h' : IH} {a n m : Nat} (hs : TxRw h a n m) (q : ∀ b, a ≤ b → b < a + 7 → hT h' b = hT h b ∧ hL h' b = hL h b ∧ hR h' b = hR h b) : TxRw h' a n m := by
  obtain ⟨g0, g1, g2, g3, g4, g5, g6⟩ := hs
  refine ⟨Tx_tr g0 q, ?_, ?_, ?_, ?_, ?_, ?_⟩
  all_goals rw [(q _ (by omega) (by omega)).1, (q _ (by omega) (by omega)).2.1]; assumption
/-- a READER stands at r, its TEXT behind it; row 2 is what it reads -/
def ShRd (h : IH) (r : Nat) : Prop := 3 ≤ r ∧ hT h r = 15 ∧ hR h r 0 = some (r + 1) ∧ TxRw h (r + 1) 400 12
theorem Rd_tr {h h' : IH} {a : Nat} (hs : ShRd h a) (q : ∀ b, a ≤ b → b < a + 8 → hT h' b = hT h b ∧ hL h' b = hL h b ∧ hR h' b = hR h b) : ShRd h' a := by
  have t0 := q a (by omega) (by omega)
  obtain ⟨g1, g2, g3, g4⟩ := hs
  refine ⟨g1, by rw [t0.1, g2], by rw [t0.2.2, g3], TxRw_tr g4 fun b b1 b2 => q b (by omega) (by omega)⟩
/-- a WAY HOME stands at y -/
def ShWh (h : IH) (y : Nat) : Prop := 3 ≤ y ∧ hT h y = 20 ∧ hR h y 4 = some (y + 1) ∧ hR h y 5 = some (y + 2) ∧ hT h (y + 1) = 0 ∧ hL h (y + 1) = 49 ∧ hT h (y + 2) = 0 ∧ hL h (y + 2) = 49
theorem Wh_tr {h h' : IH} {a : Nat} (hs : ShWh h a) (q : ∀ b, a ≤ b → b < a + 3 → hT h' b = hT h b ∧ hL h' b = hL h b ∧ hR h' b = hR h b) : ShWh h' a := by
  have t0 := q a (by omega) (by omega)
  have t1 := q (a + 1) (by omega) (by omega)
  have t2 := q (a + 2) (by omega) (by omega)
  obtain ⟨g1, g2, g3, g4, g5, g6, g7, g8⟩ := hs
  exact ⟨g1, by rw [t0.1, g2], by rw [t0.2.2, g3], by rw [t0.2.2, g4], by rw [t1.1, g5], by rw [t1.2.1, g6], by rw [t2.1, g7], by rw [t2.2.1, g8]⟩
section P35c
theorem c_Rk {d : Nat} {h : IH} {I J : Nat → Nat → Int} {a : Nat} (a3 : 3 ≤ a) (ht : hT h a = 16) (hn : hN h = a + 1) (hz : I a = fun _ => 0) : ∃ (h' : IH) (I' J' : Nat → Nat → Int), rn (d + 1) 72 [iR (some a)] (st h I J) = some (o0, st h' I' J') ∧ cKp h I J h' I' J' a ∧ (hT h' a = hT h a ∧ hL h' a = hL h a ∧ I' a = (fun i : Nat => 0) ∧ J' a = J a) ∧ hN h' = a + 2 ∧ hS h' = hS h + (64) ∧ ShRk h' a ∧ (∀ b, a < b → b < a + 2 → (I' b = fun _ => 0) ∧ (J' b = fun _ => 0)) := by
  refine ⟨(pR (mkc h (a + 1) 0 64) a 0 (some (a + 1))), (clr I (a + 1)), (clr J (a + 1)), ?_, ?_, ?_, ?_, ?_, ?_, ?_⟩
  · rw [r_Rk_init, e_Rk_init, cAl (show hN h = (a + 1) from hn) (show (64 : Int) = ((64 : Nat) : Int) from rfl) (by omega), cPut (show hT _ a = 16 by simp (disch := omega) only [ht, pR_T, mkc_Tn]) a3]
  · intro b hb
    refine ⟨?_, ?_, ?_, ?_, ?_⟩ <;> simp (disch := omega) only [mkc_Tn, mkc_Te, mkc_Ln, mkc_Le, mkc_Rn, mkc_Re, pR_T, pR_L, pR_Rn, pR_Re, pR_Ri, clr_e, clr_n, up_na, mkc_N, mkc_S, pR_N, pR_S]
  · refine ⟨?_, ?_, ?_, ?_⟩
    · simp (disch := omega) only [mkc_Tn, mkc_Te, mkc_Ln, mkc_Le, mkc_Rn, mkc_Re, pR_T, pR_L, pR_Rn, pR_Re, pR_Ri, clr_e, clr_n, up_na, mkc_N, mkc_S, pR_N, pR_S]
    · simp (disch := omega) only [mkc_Tn, mkc_Te, mkc_Ln, mkc_Le, mkc_Rn, mkc_Re, pR_T, pR_L, pR_Rn, pR_Re, pR_Ri, clr_e, clr_n, up_na, mkc_N, mkc_S, pR_N, pR_S]
    · funext i
      simp (disch := omega) only [mkc_Tn, mkc_Te, mkc_Ln, mkc_Le, mkc_Rn, mkc_Re, pR_T, pR_L, pR_Rn, pR_Re, pR_Ri, clr_e, clr_n, up_na, mkc_N, mkc_S, pR_N, pR_S, up_at, hz]
      try (repeat' split) <;> first | rfl | omega
    · simp (disch := omega) only [mkc_Tn, mkc_Te, mkc_Ln, mkc_Le, mkc_Rn, mkc_Re, pR_T, pR_L, pR_Rn, pR_Re, pR_Ri, clr_e, clr_n, up_na, mkc_N, mkc_S, pR_N, pR_S]
  · rfl
  · simp only [mkc_S, pR_S]
    try omega
  · refine ⟨a3, by simp (disch := omega) only [mkc_Tn, mkc_Te, mkc_Ln, mkc_Le, mkc_Rn, mkc_Re, pR_T, pR_L, pR_Rn, pR_Re, pR_Ri, clr_e, clr_n, up_na, mkc_N, mkc_S, pR_N, pR_S, ht], by simp (disch := omega) only [mkc_Tn, mkc_Te, mkc_Ln, mkc_Le, mkc_Rn, mkc_Re, pR_T, pR_L, pR_Rn, pR_Re, pR_Ri, clr_e, clr_n, up_na, mkc_N, mkc_S, pR_N, pR_S, ht], by simp (disch := omega) only [mkc_Tn, mkc_Te, mkc_Ln, mkc_Le, mkc_Rn, mkc_Re, pR_T, pR_L, pR_Rn, pR_Re, pR_Ri, clr_e, clr_n, up_na, mkc_N, mkc_S, pR_N, pR_S, ht], by simp (disch := omega) only [mkc_Tn, mkc_Te, mkc_Ln, mkc_Le, mkc_Rn, mkc_Re, pR_T, pR_L, pR_Rn, pR_Re, pR_Ri, clr_e, clr_n, up_na, mkc_N, mkc_S, pR_N, pR_S, ht]⟩
  · intro b b1 b2
    rcases (show b = a + 1 by omega) with z
    · subst z
      constructor <;> simp (disch := omega) only [mkc_Tn, mkc_Te, mkc_Ln, mkc_Le, mkc_Rn, mkc_Re, pR_T, pR_L, pR_Rn, pR_Re, pR_Ri, clr_e, clr_n, up_na, mkc_N, mkc_S, pR_N, pR_S]
theorem c_Ju {d : Nat} {h : IH} {I J : Nat → Nat → Int} {a : Nat} (a3 : 3 ≤ a) (ht : hT h a = 10) (hn : hN h = a + 1) (hz : I a = fun _ => 0) : ∃ (h' : IH) (I' J' : Nat → Nat → Int), rn (d + 2) 0 [iR (some a)] (st h I J) = some (o0, st h' I' J') ∧ cKp h I J h' I' J' a ∧ (hT h' a = hT h a ∧ hL h' a = hL h a ∧ I' a = (fun i : Nat => 0) ∧ J' a = J a) ∧ hN h' = a + 4 ∧ hS h' = hS h + (9 + (1 + 64)) ∧ ShJu h' a ∧ (∀ b, a < b → b < a + 4 → (I' b = fun _ => 0) ∧ (J' b = fun _ => 0)) := by
  obtain ⟨h2, I2, J2, e2, k2, ⟨o2T, o2L, o2I, o2J⟩, n2, z2, s2, x2⟩ := c_Rk (d := d) (h := (mkc (pR (mkc h (a + 1) 0 9) a 0 (some (a + 1))) (a + 2) 16 1)) (I := (clr (clr I (a + 1)) (a + 2))) (J := (clr (clr J (a + 1)) (a + 2))) (a := (a + 2)) (by omega) (mkc_Te _) rfl clr_e
  have q2T : ∀ b, b < (a + 2) → hT h2 b = hT (mkc (pR (mkc h (a + 1) 0 9) a 0 (some (a + 1))) (a + 2) 16 1) b := fun b hb => (k2 b hb).1
  have q2L : ∀ b, b < (a + 2) → hL h2 b = hL (mkc (pR (mkc h (a + 1) 0 9) a 0 (some (a + 1))) (a + 2) 16 1) b := fun b hb => (k2 b hb).2.1
  have q2R : ∀ b, b < (a + 2) → hR h2 b = hR (mkc (pR (mkc h (a + 1) 0 9) a 0 (some (a + 1))) (a + 2) 16 1) b := fun b hb => (k2 b hb).2.2.1
  have q2I : ∀ b, b < (a + 2) → I2 b = (clr (clr I (a + 1)) (a + 2)) b := fun b hb => (k2 b hb).2.2.2.1
  have q2J : ∀ b, b < (a + 2) → J2 b = (clr (clr J (a + 1)) (a + 2)) b := fun b hb => (k2 b hb).2.2.2.2
  refine ⟨(pR h2 a 1 (some (a + 2))), I2, J2, ?_, ?_, ?_, ?_, ?_, ?_, ?_⟩
  · rw [r_Ju_init, e_Ju_init, cAl (show hN h = (a + 1) from hn) (show (9 : Int) = ((9 : Nat) : Int) from rfl) (by omega), cPut (show hT _ a = 10 by simp (disch := omega) only [ht, pR_T, mkc_Tn]) a3, cOb (show hN (pR (mkc h (a + 1) 0 9) a 0 (some (a + 1))) = (a + 2) from rfl) (show 10 + 6 = 16 from rfl) (show am_nf 6 = 1 from rfl), e2, kV_o, cPut (show hT _ a = 10 by simp (disch := omega) only [ht, q2T, pR_T, mkc_Tn]) a3]
  · intro b hb
    refine ⟨?_, ?_, ?_, ?_, ?_⟩ <;> simp (disch := omega) only [q2T, q2L, q2R, q2I, q2J, o2T, o2L, o2I, o2J, mkc_Tn, mkc_Te, mkc_Ln, mkc_Le, mkc_Rn, mkc_Re, pR_T, pR_L, pR_Rn, pR_Re, pR_Ri, clr_e, clr_n, up_na, mkc_N, mkc_S, pR_N, pR_S]
  · refine ⟨?_, ?_, ?_, ?_⟩
    · simp (disch := omega) only [q2T, q2L, q2R, q2I, q2J, o2T, o2L, o2I, o2J, mkc_Tn, mkc_Te, mkc_Ln, mkc_Le, mkc_Rn, mkc_Re, pR_T, pR_L, pR_Rn, pR_Re, pR_Ri, clr_e, clr_n, up_na, mkc_N, mkc_S, pR_N, pR_S]
    · simp (disch := omega) only [q2T, q2L, q2R, q2I, q2J, o2T, o2L, o2I, o2J, mkc_Tn, mkc_Te, mkc_Ln, mkc_Le, mkc_Rn, mkc_Re, pR_T, pR_L, pR_Rn, pR_Re, pR_Ri, clr_e, clr_n, up_na, mkc_N, mkc_S, pR_N, pR_S]
    · funext i
      simp (disch := omega) only [q2T, q2L, q2R, q2I, q2J, o2T, o2L, o2I, o2J, mkc_Tn, mkc_Te, mkc_Ln, mkc_Le, mkc_Rn, mkc_Re, pR_T, pR_L, pR_Rn, pR_Re, pR_Ri, clr_e, clr_n, up_na, mkc_N, mkc_S, pR_N, pR_S, up_at, hz]
      try (repeat' split) <;> first | rfl | omega
    · simp (disch := omega) only [q2T, q2L, q2R, q2I, q2J, o2T, o2L, o2I, o2J, mkc_Tn, mkc_Te, mkc_Ln, mkc_Le, mkc_Rn, mkc_Re, pR_T, pR_L, pR_Rn, pR_Re, pR_Ri, clr_e, clr_n, up_na, mkc_N, mkc_S, pR_N, pR_S]
  · exact n2
  · simp only [mkc_S, pR_S, z2]
    try omega
  · refine ⟨a3, by simp (disch := omega) only [q2T, q2L, q2R, q2I, q2J, o2T, o2L, o2I, o2J, mkc_Tn, mkc_Te, mkc_Ln, mkc_Le, mkc_Rn, mkc_Re, pR_T, pR_L, pR_Rn, pR_Re, pR_Ri, clr_e, clr_n, up_na, mkc_N, mkc_S, pR_N, pR_S, ht], by simp (disch := omega) only [q2T, q2L, q2R, q2I, q2J, o2T, o2L, o2I, o2J, mkc_Tn, mkc_Te, mkc_Ln, mkc_Le, mkc_Rn, mkc_Re, pR_T, pR_L, pR_Rn, pR_Re, pR_Ri, clr_e, clr_n, up_na, mkc_N, mkc_S, pR_N, pR_S, ht], by simp (disch := omega) only [q2T, q2L, q2R, q2I, q2J, o2T, o2L, o2I, o2J, mkc_Tn, mkc_Te, mkc_Ln, mkc_Le, mkc_Rn, mkc_Re, pR_T, pR_L, pR_Rn, pR_Re, pR_Ri, clr_e, clr_n, up_na, mkc_N, mkc_S, pR_N, pR_S, ht], by simp (disch := omega) only [q2T, q2L, q2R, q2I, q2J, o2T, o2L, o2I, o2J, mkc_Tn, mkc_Te, mkc_Ln, mkc_Le, mkc_Rn, mkc_Re, pR_T, pR_L, pR_Rn, pR_Re, pR_Ri, clr_e, clr_n, up_na, mkc_N, mkc_S, pR_N, pR_S, ht], by simp (disch := omega) only [q2T, q2L, q2R, q2I, q2J, o2T, o2L, o2I, o2J, mkc_Tn, mkc_Te, mkc_Ln, mkc_Le, mkc_Rn, mkc_Re, pR_T, pR_L, pR_Rn, pR_Re, pR_Ri, clr_e, clr_n, up_na, mkc_N, mkc_S, pR_N, pR_S, ht], Rk_tr s2 fun b b1 b2 => ⟨by simp (disch := omega) only [q2T, q2L, q2R, q2I, q2J, o2T, o2L, o2I, o2J, mkc_Tn, mkc_Te, mkc_Ln, mkc_Le, mkc_Rn, mkc_Re, pR_T, pR_L, pR_Rn, pR_Re, pR_Ri, clr_e, clr_n, up_na, mkc_N, mkc_S, pR_N, pR_S, ht], by simp (disch := omega) only [q2T, q2L, q2R, q2I, q2J, o2T, o2L, o2I, o2J, mkc_Tn, mkc_Te, mkc_Ln, mkc_Le, mkc_Rn, mkc_Re, pR_T, pR_L, pR_Rn, pR_Re, pR_Ri, clr_e, clr_n, up_na, mkc_N, mkc_S, pR_N, pR_S, ht], by simp (disch := omega) only [q2T, q2L, q2R, q2I, q2J, o2T, o2L, o2I, o2J, mkc_Tn, mkc_Te, mkc_Ln, mkc_Le, mkc_Rn, mkc_Re, pR_T, pR_L, pR_Rn, pR_Re, pR_Ri, clr_e, clr_n, up_na, mkc_N, mkc_S, pR_N, pR_S, ht]⟩⟩
  · intro b b1 b2
    rcases (show b = a + 1 ∨ b = a + 2 ∨ (a + 2 < b ∧ b < a + 4) by omega) with z | z | z
    · subst z
      constructor <;> simp (disch := omega) only [q2T, q2L, q2R, q2I, q2J, o2T, o2L, o2I, o2J, mkc_Tn, mkc_Te, mkc_Ln, mkc_Le, mkc_Rn, mkc_Re, pR_T, pR_L, pR_Rn, pR_Re, pR_Ri, clr_e, clr_n, up_na, mkc_N, mkc_S, pR_N, pR_S]
    · subst z
      constructor <;> simp (disch := omega) only [q2T, q2L, q2R, q2I, q2J, o2T, o2L, o2I, o2J, mkc_Tn, mkc_Te, mkc_Ln, mkc_Le, mkc_Rn, mkc_Re, pR_T, pR_L, pR_Rn, pR_Re, pR_Ri, clr_e, clr_n, up_na, mkc_N, mkc_S, pR_N, pR_S]
    · have y := x2 b z.1 z.2
      constructor
      · simp (disch := omega) only [mkc_Tn, mkc_Te, mkc_Ln, mkc_Le, mkc_Rn, mkc_Re, pR_T, pR_L, pR_Rn, pR_Re, pR_Ri, clr_e, clr_n, up_na, mkc_N, mkc_S, pR_N, pR_S, y.1]
      · simp (disch := omega) only [mkc_Tn, mkc_Te, mkc_Ln, mkc_Le, mkc_Rn, mkc_Re, pR_T, pR_L, pR_Rn, pR_Re, pR_Ri, clr_e, clr_n, up_na, mkc_N, mkc_S, pR_N, pR_S, y.2]
theorem c_Mo {d : Nat} {h : IH} {I J : Nat → Nat → Int} {a : Nat} (a3 : 3 ≤ a) (ht : hT h a = 12) (hn : hN h = a + 1) (hz : I a = fun _ => 0) : ∃ (h' : IH) (I' J' : Nat → Nat → Int), rn (d + 3) 20 [iR (some a)] (st h I J) = some (o0, st h' I' J') ∧ cKp h I J h' I' J' a ∧ (hT h' a = hT h a ∧ hL h' a = hL h a ∧ I' a = (fun i : Nat => 0) ∧ J' a = J a) ∧ hN h' = a + 6 ∧ hS h' = hS h + ((2 + (9 + (1 + 64))) + 7) ∧ ShMo h' a ∧ (∀ b, a < b → b < a + 6 → (I' b = fun _ => 0) ∧ (J' b = fun _ => 0)) := by
  obtain ⟨h1, I1, J1, e1, k1, ⟨o1T, o1L, o1I, o1J⟩, n1, z1, s1, x1⟩ := c_Ju (d := d) (h := (mkc h (a + 1) 10 2)) (I := (clr I (a + 1))) (J := (clr J (a + 1))) (a := (a + 1)) (by omega) (mkc_Te _) rfl clr_e
  have q1T : ∀ b, b < (a + 1) → hT h1 b = hT (mkc h (a + 1) 10 2) b := fun b hb => (k1 b hb).1
  have q1L : ∀ b, b < (a + 1) → hL h1 b = hL (mkc h (a + 1) 10 2) b := fun b hb => (k1 b hb).2.1
  have q1R : ∀ b, b < (a + 1) → hR h1 b = hR (mkc h (a + 1) 10 2) b := fun b hb => (k1 b hb).2.2.1
  have q1I : ∀ b, b < (a + 1) → I1 b = (clr I (a + 1)) b := fun b hb => (k1 b hb).2.2.2.1
  have q1J : ∀ b, b < (a + 1) → J1 b = (clr J (a + 1)) b := fun b hb => (k1 b hb).2.2.2.2
  refine ⟨(pR (mkc (pR h1 a 0 (some (a + 1))) (a + 5) 0 7) a 1 (some (a + 5))), (clr I1 (a + 5)), (clr J1 (a + 5)), ?_, ?_, ?_, ?_, ?_, ?_, ?_⟩
  · rw [r_Mo_init, e_Mo_init, cOb (show hN h = (a + 1) from hn) (show 10 + 0 = 10 from rfl) (show am_nf 0 = 2 from rfl), e1, kV_o, cPut (show hT _ a = 12 by simp (disch := omega) only [ht, q1T, pR_T, mkc_Tn]) a3, cAl (show hN (pR h1 a 0 (some (a + 1))) = (a + 5) from n1) (show (7 : Int) = ((7 : Nat) : Int) from rfl) (by omega), cPut (show hT _ a = 12 by simp (disch := omega) only [ht, q1T, pR_T, mkc_Tn]) a3]
  · intro b hb
    refine ⟨?_, ?_, ?_, ?_, ?_⟩ <;> simp (disch := omega) only [q1T, q1L, q1R, q1I, q1J, o1T, o1L, o1I, o1J, mkc_Tn, mkc_Te, mkc_Ln, mkc_Le, mkc_Rn, mkc_Re, pR_T, pR_L, pR_Rn, pR_Re, pR_Ri, clr_e, clr_n, up_na, mkc_N, mkc_S, pR_N, pR_S]
  · refine ⟨?_, ?_, ?_, ?_⟩
    · simp (disch := omega) only [q1T, q1L, q1R, q1I, q1J, o1T, o1L, o1I, o1J, mkc_Tn, mkc_Te, mkc_Ln, mkc_Le, mkc_Rn, mkc_Re, pR_T, pR_L, pR_Rn, pR_Re, pR_Ri, clr_e, clr_n, up_na, mkc_N, mkc_S, pR_N, pR_S]
    · simp (disch := omega) only [q1T, q1L, q1R, q1I, q1J, o1T, o1L, o1I, o1J, mkc_Tn, mkc_Te, mkc_Ln, mkc_Le, mkc_Rn, mkc_Re, pR_T, pR_L, pR_Rn, pR_Re, pR_Ri, clr_e, clr_n, up_na, mkc_N, mkc_S, pR_N, pR_S]
    · funext i
      simp (disch := omega) only [q1T, q1L, q1R, q1I, q1J, o1T, o1L, o1I, o1J, mkc_Tn, mkc_Te, mkc_Ln, mkc_Le, mkc_Rn, mkc_Re, pR_T, pR_L, pR_Rn, pR_Re, pR_Ri, clr_e, clr_n, up_na, mkc_N, mkc_S, pR_N, pR_S, up_at, hz]
      try (repeat' split) <;> first | rfl | omega
    · simp (disch := omega) only [q1T, q1L, q1R, q1I, q1J, o1T, o1L, o1I, o1J, mkc_Tn, mkc_Te, mkc_Ln, mkc_Le, mkc_Rn, mkc_Re, pR_T, pR_L, pR_Rn, pR_Re, pR_Ri, clr_e, clr_n, up_na, mkc_N, mkc_S, pR_N, pR_S]
  · rfl
  · simp only [mkc_S, pR_S, z1]
    try omega
  · refine ⟨a3, by simp (disch := omega) only [q1T, q1L, q1R, q1I, q1J, o1T, o1L, o1I, o1J, mkc_Tn, mkc_Te, mkc_Ln, mkc_Le, mkc_Rn, mkc_Re, pR_T, pR_L, pR_Rn, pR_Re, pR_Ri, clr_e, clr_n, up_na, mkc_N, mkc_S, pR_N, pR_S, ht], by simp (disch := omega) only [q1T, q1L, q1R, q1I, q1J, o1T, o1L, o1I, o1J, mkc_Tn, mkc_Te, mkc_Ln, mkc_Le, mkc_Rn, mkc_Re, pR_T, pR_L, pR_Rn, pR_Re, pR_Ri, clr_e, clr_n, up_na, mkc_N, mkc_S, pR_N, pR_S, ht], by simp (disch := omega) only [q1T, q1L, q1R, q1I, q1J, o1T, o1L, o1I, o1J, mkc_Tn, mkc_Te, mkc_Ln, mkc_Le, mkc_Rn, mkc_Re, pR_T, pR_L, pR_Rn, pR_Re, pR_Ri, clr_e, clr_n, up_na, mkc_N, mkc_S, pR_N, pR_S, ht], by simp (disch := omega) only [q1T, q1L, q1R, q1I, q1J, o1T, o1L, o1I, o1J, mkc_Tn, mkc_Te, mkc_Ln, mkc_Le, mkc_Rn, mkc_Re, pR_T, pR_L, pR_Rn, pR_Re, pR_Ri, clr_e, clr_n, up_na, mkc_N, mkc_S, pR_N, pR_S, ht], by simp (disch := omega) only [q1T, q1L, q1R, q1I, q1J, o1T, o1L, o1I, o1J, mkc_Tn, mkc_Te, mkc_Ln, mkc_Le, mkc_Rn, mkc_Re, pR_T, pR_L, pR_Rn, pR_Re, pR_Ri, clr_e, clr_n, up_na, mkc_N, mkc_S, pR_N, pR_S, ht], Ju_tr s1 fun b b1 b2 => ⟨by simp (disch := omega) only [q1T, q1L, q1R, q1I, q1J, o1T, o1L, o1I, o1J, mkc_Tn, mkc_Te, mkc_Ln, mkc_Le, mkc_Rn, mkc_Re, pR_T, pR_L, pR_Rn, pR_Re, pR_Ri, clr_e, clr_n, up_na, mkc_N, mkc_S, pR_N, pR_S, ht], by simp (disch := omega) only [q1T, q1L, q1R, q1I, q1J, o1T, o1L, o1I, o1J, mkc_Tn, mkc_Te, mkc_Ln, mkc_Le, mkc_Rn, mkc_Re, pR_T, pR_L, pR_Rn, pR_Re, pR_Ri, clr_e, clr_n, up_na, mkc_N, mkc_S, pR_N, pR_S, ht], by simp (disch := omega) only [q1T, q1L, q1R, q1I, q1J, o1T, o1L, o1I, o1J, mkc_Tn, mkc_Te, mkc_Ln, mkc_Le, mkc_Rn, mkc_Re, pR_T, pR_L, pR_Rn, pR_Re, pR_Ri, clr_e, clr_n, up_na, mkc_N, mkc_S, pR_N, pR_S, ht]⟩⟩
  · intro b b1 b2
    rcases (show b = a + 1 ∨ (a + 1 < b ∧ b < a + 5) ∨ b = a + 5 by omega) with z | z | z
    · subst z
      constructor <;> simp (disch := omega) only [q1T, q1L, q1R, q1I, q1J, o1T, o1L, o1I, o1J, mkc_Tn, mkc_Te, mkc_Ln, mkc_Le, mkc_Rn, mkc_Re, pR_T, pR_L, pR_Rn, pR_Re, pR_Ri, clr_e, clr_n, up_na, mkc_N, mkc_S, pR_N, pR_S]
    · have y := x1 b z.1 z.2
      constructor
      · simp (disch := omega) only [mkc_Tn, mkc_Te, mkc_Ln, mkc_Le, mkc_Rn, mkc_Re, pR_T, pR_L, pR_Rn, pR_Re, pR_Ri, clr_e, clr_n, up_na, mkc_N, mkc_S, pR_N, pR_S, y.1]
      · simp (disch := omega) only [mkc_Tn, mkc_Te, mkc_Ln, mkc_Le, mkc_Rn, mkc_Re, pR_T, pR_L, pR_Rn, pR_Re, pR_Ri, clr_e, clr_n, up_na, mkc_N, mkc_S, pR_N, pR_S, y.2]
    · subst z
      constructor <;> simp (disch := omega) only [q1T, q1L, q1R, q1I, q1J, o1T, o1L, o1I, o1J, mkc_Tn, mkc_Te, mkc_Ln, mkc_Le, mkc_Rn, mkc_Re, pR_T, pR_L, pR_Rn, pR_Re, pR_Ri, clr_e, clr_n, up_na, mkc_N, mkc_S, pR_N, pR_S]
theorem c_Rn {d : Nat} {h : IH} {I J : Nat → Nat → Int} {a : Nat} (a3 : 3 ≤ a) (ht : hT h a = 17) (hn : hN h = a + 1) (hz : I a = fun _ => 0) : ∃ (h' : IH) (I' J' : Nat → Nat → Int), rn (d + 4) 75 [iR (some a)] (st h I J) = some (o0, st h' I' J') ∧ cKp h I J h' I' J' a ∧ (hT h' a = hT h a ∧ hL h' a = hL h a ∧ I' a = (fun i : Nat => if i = 1 then -1 else 0) ∧ J' a = J a) ∧ hN h' = a + 10 ∧ hS h' = hS h + ((2 + ((2 + (9 + (1 + 64))) + 7)) + 18 + (1 + 64)) ∧ ShRn h' a ∧ (∀ b, a < b → b < a + 10 → (I' b = fun _ => 0) ∧ (J' b = fun _ => 0)) := by
  obtain ⟨h1, I1, J1, e1, k1, ⟨o1T, o1L, o1I, o1J⟩, n1, z1, s1, x1⟩ := c_Mo (d := d) (h := (mkc h (a + 1) 12 2)) (I := (clr (up (up I a 0 0) a 1 (-1)) (a + 1))) (J := (clr J (a + 1))) (a := (a + 1)) (by omega) (mkc_Te _) rfl clr_e
  have q1T : ∀ b, b < (a + 1) → hT h1 b = hT (mkc h (a + 1) 12 2) b := fun b hb => (k1 b hb).1
  have q1L : ∀ b, b < (a + 1) → hL h1 b = hL (mkc h (a + 1) 12 2) b := fun b hb => (k1 b hb).2.1
  have q1R : ∀ b, b < (a + 1) → hR h1 b = hR (mkc h (a + 1) 12 2) b := fun b hb => (k1 b hb).2.2.1
  have q1I : ∀ b, b < (a + 1) → I1 b = (clr (up (up I a 0 0) a 1 (-1)) (a + 1)) b := fun b hb => (k1 b hb).2.2.2.1
  have q1J : ∀ b, b < (a + 1) → J1 b = (clr J (a + 1)) b := fun b hb => (k1 b hb).2.2.2.2
  obtain ⟨h8, I8, J8, e8, k8, ⟨o8T, o8L, o8I, o8J⟩, n8, z8, s8, x8⟩ := c_Rk (d := d + 2) (h := (mkc (pR (mkc (pR h1 a 2 (some (a + 1))) (a + 7) 0 18) a 3 (some (a + 7))) (a + 8) 16 1)) (I := (clr (clr I1 (a + 7)) (a + 8))) (J := (clr (clr J1 (a + 7)) (a + 8))) (a := (a + 8)) (by omega) (mkc_Te _) rfl clr_e
  have q8T : ∀ b, b < (a + 8) → hT h8 b = hT (mkc (pR (mkc (pR h1 a 2 (some (a + 1))) (a + 7) 0 18) a 3 (some (a + 7))) (a + 8) 16 1) b := fun b hb => (k8 b hb).1
  have q8L : ∀ b, b < (a + 8) → hL h8 b = hL (mkc (pR (mkc (pR h1 a 2 (some (a + 1))) (a + 7) 0 18) a 3 (some (a + 7))) (a + 8) 16 1) b := fun b hb => (k8 b hb).2.1
  have q8R : ∀ b, b < (a + 8) → hR h8 b = hR (mkc (pR (mkc (pR h1 a 2 (some (a + 1))) (a + 7) 0 18) a 3 (some (a + 7))) (a + 8) 16 1) b := fun b hb => (k8 b hb).2.2.1
  have q8I : ∀ b, b < (a + 8) → I8 b = (clr (clr I1 (a + 7)) (a + 8)) b := fun b hb => (k8 b hb).2.2.2.1
  have q8J : ∀ b, b < (a + 8) → J8 b = (clr (clr J1 (a + 7)) (a + 8)) b := fun b hb => (k8 b hb).2.2.2.2
  refine ⟨(pR h8 a 4 (some (a + 8))), I8, J8, ?_, ?_, ?_, ?_, ?_, ?_, ?_⟩
  · rw [r_Rn_init, e_Rn_init, ypI (show hT _ a = 17 by simp (disch := omega) only [ht, pR_T, mkc_Tn]) a3, ypI (show hT _ a = 17 by simp (disch := omega) only [ht, pR_T, mkc_Tn]) a3, cOb (show hN h = (a + 1) from hn) (show 10 + 2 = 12 from rfl) (show am_nf 2 = 2 from rfl), e1, kV_o, cPut (show hT _ a = 17 by simp (disch := omega) only [ht, q1T, pR_T, mkc_Tn]) a3, cAl (show hN (pR h1 a 2 (some (a + 1))) = (a + 7) from n1) (show (18 : Int) = ((18 : Nat) : Int) from rfl) (by omega), cPut (show hT _ a = 17 by simp (disch := omega) only [ht, q1T, pR_T, mkc_Tn]) a3, cOb (show hN (pR (mkc (pR h1 a 2 (some (a + 1))) (a + 7) 0 18) a 3 (some (a + 7))) = (a + 8) from rfl) (show 10 + 6 = 16 from rfl) (show am_nf 6 = 1 from rfl), e8, kV_o, cPut (show hT _ a = 17 by simp (disch := omega) only [ht, q1T, q8T, pR_T, mkc_Tn]) a3]
  · intro b hb
    refine ⟨?_, ?_, ?_, ?_, ?_⟩ <;> simp (disch := omega) only [q1T, q1L, q1R, q1I, q1J, o1T, o1L, o1I, o1J, q8T, q8L, q8R, q8I, q8J, o8T, o8L, o8I, o8J, mkc_Tn, mkc_Te, mkc_Ln, mkc_Le, mkc_Rn, mkc_Re, pR_T, pR_L, pR_Rn, pR_Re, pR_Ri, clr_e, clr_n, up_na, mkc_N, mkc_S, pR_N, pR_S]
  · refine ⟨?_, ?_, ?_, ?_⟩
    · simp (disch := omega) only [q1T, q1L, q1R, q1I, q1J, o1T, o1L, o1I, o1J, q8T, q8L, q8R, q8I, q8J, o8T, o8L, o8I, o8J, mkc_Tn, mkc_Te, mkc_Ln, mkc_Le, mkc_Rn, mkc_Re, pR_T, pR_L, pR_Rn, pR_Re, pR_Ri, clr_e, clr_n, up_na, mkc_N, mkc_S, pR_N, pR_S]
    · simp (disch := omega) only [q1T, q1L, q1R, q1I, q1J, o1T, o1L, o1I, o1J, q8T, q8L, q8R, q8I, q8J, o8T, o8L, o8I, o8J, mkc_Tn, mkc_Te, mkc_Ln, mkc_Le, mkc_Rn, mkc_Re, pR_T, pR_L, pR_Rn, pR_Re, pR_Ri, clr_e, clr_n, up_na, mkc_N, mkc_S, pR_N, pR_S]
    · funext i
      simp (disch := omega) only [q1T, q1L, q1R, q1I, q1J, o1T, o1L, o1I, o1J, q8T, q8L, q8R, q8I, q8J, o8T, o8L, o8I, o8J, mkc_Tn, mkc_Te, mkc_Ln, mkc_Le, mkc_Rn, mkc_Re, pR_T, pR_L, pR_Rn, pR_Re, pR_Ri, clr_e, clr_n, up_na, mkc_N, mkc_S, pR_N, pR_S, up_at, hz]
      try (repeat' split) <;> first | rfl | omega
    · simp (disch := omega) only [q1T, q1L, q1R, q1I, q1J, o1T, o1L, o1I, o1J, q8T, q8L, q8R, q8I, q8J, o8T, o8L, o8I, o8J, mkc_Tn, mkc_Te, mkc_Ln, mkc_Le, mkc_Rn, mkc_Re, pR_T, pR_L, pR_Rn, pR_Re, pR_Ri, clr_e, clr_n, up_na, mkc_N, mkc_S, pR_N, pR_S]
  · exact n8
  · simp only [mkc_S, pR_S, z1, z8]
    try omega
  · refine ⟨a3, by simp (disch := omega) only [q1T, q1L, q1R, q1I, q1J, o1T, o1L, o1I, o1J, q8T, q8L, q8R, q8I, q8J, o8T, o8L, o8I, o8J, mkc_Tn, mkc_Te, mkc_Ln, mkc_Le, mkc_Rn, mkc_Re, pR_T, pR_L, pR_Rn, pR_Re, pR_Ri, clr_e, clr_n, up_na, mkc_N, mkc_S, pR_N, pR_S, ht], by simp (disch := omega) only [q1T, q1L, q1R, q1I, q1J, o1T, o1L, o1I, o1J, q8T, q8L, q8R, q8I, q8J, o8T, o8L, o8I, o8J, mkc_Tn, mkc_Te, mkc_Ln, mkc_Le, mkc_Rn, mkc_Re, pR_T, pR_L, pR_Rn, pR_Re, pR_Ri, clr_e, clr_n, up_na, mkc_N, mkc_S, pR_N, pR_S, ht], by simp (disch := omega) only [q1T, q1L, q1R, q1I, q1J, o1T, o1L, o1I, o1J, q8T, q8L, q8R, q8I, q8J, o8T, o8L, o8I, o8J, mkc_Tn, mkc_Te, mkc_Ln, mkc_Le, mkc_Rn, mkc_Re, pR_T, pR_L, pR_Rn, pR_Re, pR_Ri, clr_e, clr_n, up_na, mkc_N, mkc_S, pR_N, pR_S, ht], by simp (disch := omega) only [q1T, q1L, q1R, q1I, q1J, o1T, o1L, o1I, o1J, q8T, q8L, q8R, q8I, q8J, o8T, o8L, o8I, o8J, mkc_Tn, mkc_Te, mkc_Ln, mkc_Le, mkc_Rn, mkc_Re, pR_T, pR_L, pR_Rn, pR_Re, pR_Ri, clr_e, clr_n, up_na, mkc_N, mkc_S, pR_N, pR_S, ht], by simp (disch := omega) only [q1T, q1L, q1R, q1I, q1J, o1T, o1L, o1I, o1J, q8T, q8L, q8R, q8I, q8J, o8T, o8L, o8I, o8J, mkc_Tn, mkc_Te, mkc_Ln, mkc_Le, mkc_Rn, mkc_Re, pR_T, pR_L, pR_Rn, pR_Re, pR_Ri, clr_e, clr_n, up_na, mkc_N, mkc_S, pR_N, pR_S, ht], by simp (disch := omega) only [q1T, q1L, q1R, q1I, q1J, o1T, o1L, o1I, o1J, q8T, q8L, q8R, q8I, q8J, o8T, o8L, o8I, o8J, mkc_Tn, mkc_Te, mkc_Ln, mkc_Le, mkc_Rn, mkc_Re, pR_T, pR_L, pR_Rn, pR_Re, pR_Ri, clr_e, clr_n, up_na, mkc_N, mkc_S, pR_N, pR_S, ht], Mo_tr s1 fun b b1 b2 => ⟨by simp (disch := omega) only [q1T, q1L, q1R, q1I, q1J, o1T, o1L, o1I, o1J, q8T, q8L, q8R, q8I, q8J, o8T, o8L, o8I, o8J, mkc_Tn, mkc_Te, mkc_Ln, mkc_Le, mkc_Rn, mkc_Re, pR_T, pR_L, pR_Rn, pR_Re, pR_Ri, clr_e, clr_n, up_na, mkc_N, mkc_S, pR_N, pR_S, ht], by simp (disch := omega) only [q1T, q1L, q1R, q1I, q1J, o1T, o1L, o1I, o1J, q8T, q8L, q8R, q8I, q8J, o8T, o8L, o8I, o8J, mkc_Tn, mkc_Te, mkc_Ln, mkc_Le, mkc_Rn, mkc_Re, pR_T, pR_L, pR_Rn, pR_Re, pR_Ri, clr_e, clr_n, up_na, mkc_N, mkc_S, pR_N, pR_S, ht], by simp (disch := omega) only [q1T, q1L, q1R, q1I, q1J, o1T, o1L, o1I, o1J, q8T, q8L, q8R, q8I, q8J, o8T, o8L, o8I, o8J, mkc_Tn, mkc_Te, mkc_Ln, mkc_Le, mkc_Rn, mkc_Re, pR_T, pR_L, pR_Rn, pR_Re, pR_Ri, clr_e, clr_n, up_na, mkc_N, mkc_S, pR_N, pR_S, ht]⟩, Rk_tr s8 fun b b1 b2 => ⟨by simp (disch := omega) only [q1T, q1L, q1R, q1I, q1J, o1T, o1L, o1I, o1J, q8T, q8L, q8R, q8I, q8J, o8T, o8L, o8I, o8J, mkc_Tn, mkc_Te, mkc_Ln, mkc_Le, mkc_Rn, mkc_Re, pR_T, pR_L, pR_Rn, pR_Re, pR_Ri, clr_e, clr_n, up_na, mkc_N, mkc_S, pR_N, pR_S, ht], by simp (disch := omega) only [q1T, q1L, q1R, q1I, q1J, o1T, o1L, o1I, o1J, q8T, q8L, q8R, q8I, q8J, o8T, o8L, o8I, o8J, mkc_Tn, mkc_Te, mkc_Ln, mkc_Le, mkc_Rn, mkc_Re, pR_T, pR_L, pR_Rn, pR_Re, pR_Ri, clr_e, clr_n, up_na, mkc_N, mkc_S, pR_N, pR_S, ht], by simp (disch := omega) only [q1T, q1L, q1R, q1I, q1J, o1T, o1L, o1I, o1J, q8T, q8L, q8R, q8I, q8J, o8T, o8L, o8I, o8J, mkc_Tn, mkc_Te, mkc_Ln, mkc_Le, mkc_Rn, mkc_Re, pR_T, pR_L, pR_Rn, pR_Re, pR_Ri, clr_e, clr_n, up_na, mkc_N, mkc_S, pR_N, pR_S, ht]⟩⟩
  · intro b b1 b2
    rcases (show b = a + 1 ∨ (a + 1 < b ∧ b < a + 7) ∨ b = a + 7 ∨ b = a + 8 ∨ (a + 8 < b ∧ b < a + 10) by omega) with z | z | z | z | z
    · subst z
      constructor <;> simp (disch := omega) only [q1T, q1L, q1R, q1I, q1J, o1T, o1L, o1I, o1J, q8T, q8L, q8R, q8I, q8J, o8T, o8L, o8I, o8J, mkc_Tn, mkc_Te, mkc_Ln, mkc_Le, mkc_Rn, mkc_Re, pR_T, pR_L, pR_Rn, pR_Re, pR_Ri, clr_e, clr_n, up_na, mkc_N, mkc_S, pR_N, pR_S]
    · have y := x1 b z.1 z.2
      constructor
      · simp (disch := omega) only [q8T, q8L, q8R, q8I, q8J, o8T, o8L, o8I, o8J, mkc_Tn, mkc_Te, mkc_Ln, mkc_Le, mkc_Rn, mkc_Re, pR_T, pR_L, pR_Rn, pR_Re, pR_Ri, clr_e, clr_n, up_na, mkc_N, mkc_S, pR_N, pR_S, y.1]
      · simp (disch := omega) only [q8T, q8L, q8R, q8I, q8J, o8T, o8L, o8I, o8J, mkc_Tn, mkc_Te, mkc_Ln, mkc_Le, mkc_Rn, mkc_Re, pR_T, pR_L, pR_Rn, pR_Re, pR_Ri, clr_e, clr_n, up_na, mkc_N, mkc_S, pR_N, pR_S, y.2]
    · subst z
      constructor <;> simp (disch := omega) only [q1T, q1L, q1R, q1I, q1J, o1T, o1L, o1I, o1J, q8T, q8L, q8R, q8I, q8J, o8T, o8L, o8I, o8J, mkc_Tn, mkc_Te, mkc_Ln, mkc_Le, mkc_Rn, mkc_Re, pR_T, pR_L, pR_Rn, pR_Re, pR_Ri, clr_e, clr_n, up_na, mkc_N, mkc_S, pR_N, pR_S]
    · subst z
      constructor <;> simp (disch := omega) only [q1T, q1L, q1R, q1I, q1J, o1T, o1L, o1I, o1J, q8T, q8L, q8R, q8I, q8J, o8T, o8L, o8I, o8J, mkc_Tn, mkc_Te, mkc_Ln, mkc_Le, mkc_Rn, mkc_Re, pR_T, pR_L, pR_Rn, pR_Re, pR_Ri, clr_e, clr_n, up_na, mkc_N, mkc_S, pR_N, pR_S]
    · have y := x8 b z.1 z.2
      constructor
      · simp (disch := omega) only [mkc_Tn, mkc_Te, mkc_Ln, mkc_Le, mkc_Rn, mkc_Re, pR_T, pR_L, pR_Rn, pR_Re, pR_Ri, clr_e, clr_n, up_na, mkc_N, mkc_S, pR_N, pR_S, y.1]
      · simp (disch := omega) only [mkc_Tn, mkc_Te, mkc_Ln, mkc_Le, mkc_Rn, mkc_Re, pR_T, pR_L, pR_Rn, pR_Re, pR_Ri, clr_e, clr_n, up_na, mkc_N, mkc_S, pR_N, pR_S, y.2]
theorem c_Ps {d : Nat} {h : IH} {I J : Nat → Nat → Int} {a : Nat} (a3 : 3 ≤ a) (ht : hT h a = 14) (hn : hN h = a + 1) (hz : I a = fun _ => 0) : ∃ (h' : IH) (I' J' : Nat → Nat → Int), rn (d + 1) 46 [iR (some a)] (st h I J) = some (o0, st h' I' J') ∧ cKp h I J h' I' J' a ∧ (hT h' a = hT h a ∧ hL h' a = hL h a ∧ I' a = (fun i : Nat => 0) ∧ J' a = J a) ∧ hN h' = a + 2 ∧ hS h' = hS h + (1224) ∧ ShPs h' a ∧ (∀ b, a < b → b < a + 2 → (I' b = fun _ => 0) ∧ (J' b = fun _ => 0)) := by
  refine ⟨(pR (mkc h (a + 1) 0 1224) a 2 (some (a + 1))), (clr (up (up I a 0 0) a 1 0) (a + 1)), (clr J (a + 1)), ?_, ?_, ?_, ?_, ?_, ?_, ?_⟩
  · rw [r_Ps_init, e_Ps_init, ypI (show hT _ a = 14 by simp (disch := omega) only [ht, pR_T, mkc_Tn]) a3, ypI (show hT _ a = 14 by simp (disch := omega) only [ht, pR_T, mkc_Tn]) a3, cAl (show hN h = (a + 1) from hn) (show (1224 : Int) = ((1224 : Nat) : Int) from rfl) (by omega), cPut (show hT _ a = 14 by simp (disch := omega) only [ht, pR_T, mkc_Tn]) a3]
  · intro b hb
    refine ⟨?_, ?_, ?_, ?_, ?_⟩ <;> simp (disch := omega) only [mkc_Tn, mkc_Te, mkc_Ln, mkc_Le, mkc_Rn, mkc_Re, pR_T, pR_L, pR_Rn, pR_Re, pR_Ri, clr_e, clr_n, up_na, mkc_N, mkc_S, pR_N, pR_S]
  · refine ⟨?_, ?_, ?_, ?_⟩
    · simp (disch := omega) only [mkc_Tn, mkc_Te, mkc_Ln, mkc_Le, mkc_Rn, mkc_Re, pR_T, pR_L, pR_Rn, pR_Re, pR_Ri, clr_e, clr_n, up_na, mkc_N, mkc_S, pR_N, pR_S]
    · simp (disch := omega) only [mkc_Tn, mkc_Te, mkc_Ln, mkc_Le, mkc_Rn, mkc_Re, pR_T, pR_L, pR_Rn, pR_Re, pR_Ri, clr_e, clr_n, up_na, mkc_N, mkc_S, pR_N, pR_S]
    · funext i
      simp (disch := omega) only [mkc_Tn, mkc_Te, mkc_Ln, mkc_Le, mkc_Rn, mkc_Re, pR_T, pR_L, pR_Rn, pR_Re, pR_Ri, clr_e, clr_n, up_na, mkc_N, mkc_S, pR_N, pR_S, up_at, hz]
      try (repeat' split) <;> first | rfl | omega
    · simp (disch := omega) only [mkc_Tn, mkc_Te, mkc_Ln, mkc_Le, mkc_Rn, mkc_Re, pR_T, pR_L, pR_Rn, pR_Re, pR_Ri, clr_e, clr_n, up_na, mkc_N, mkc_S, pR_N, pR_S]
  · rfl
  · simp only [mkc_S, pR_S]
    try omega
  · refine ⟨a3, by simp (disch := omega) only [mkc_Tn, mkc_Te, mkc_Ln, mkc_Le, mkc_Rn, mkc_Re, pR_T, pR_L, pR_Rn, pR_Re, pR_Ri, clr_e, clr_n, up_na, mkc_N, mkc_S, pR_N, pR_S, ht], by simp (disch := omega) only [mkc_Tn, mkc_Te, mkc_Ln, mkc_Le, mkc_Rn, mkc_Re, pR_T, pR_L, pR_Rn, pR_Re, pR_Ri, clr_e, clr_n, up_na, mkc_N, mkc_S, pR_N, pR_S, ht], by simp (disch := omega) only [mkc_Tn, mkc_Te, mkc_Ln, mkc_Le, mkc_Rn, mkc_Re, pR_T, pR_L, pR_Rn, pR_Re, pR_Ri, clr_e, clr_n, up_na, mkc_N, mkc_S, pR_N, pR_S, ht], by simp (disch := omega) only [mkc_Tn, mkc_Te, mkc_Ln, mkc_Le, mkc_Rn, mkc_Re, pR_T, pR_L, pR_Rn, pR_Re, pR_Ri, clr_e, clr_n, up_na, mkc_N, mkc_S, pR_N, pR_S, ht]⟩
  · intro b b1 b2
    rcases (show b = a + 1 by omega) with z
    · subst z
      constructor <;> simp (disch := omega) only [mkc_Tn, mkc_Te, mkc_Ln, mkc_Le, mkc_Rn, mkc_Re, pR_T, pR_L, pR_Rn, pR_Re, pR_Ri, clr_e, clr_n, up_na, mkc_N, mkc_S, pR_N, pR_S]
theorem c_Pa {d : Nat} {h : IH} {I J : Nat → Nat → Int} {a : Nat} (a3 : 3 ≤ a) (ht : hT h a = 13) (hn : hN h = a + 1) (hz : I a = fun _ => 0) : ∃ (h' : IH) (I' J' : Nat → Nat → Int), rn (d + 1) 27 [iR (some a)] (st h I J) = some (o0, st h' I' J') ∧ cKp h I J h' I' J' a ∧ (hT h' a = hT h a ∧ hL h' a = hL h a ∧ I' a = (fun i : Nat => 0) ∧ J' a = J a) ∧ hN h' = a + 7 ∧ hS h' = hS h + (49 + 7 + 49 + 128 + 128 + 7) ∧ ShPa h' a ∧ (∀ b, a < b → b < a + 7 → (I' b = fun _ => 0) ∧ (J' b = fun _ => 0)) := by
  refine ⟨(pR (mkc (pR (mkc (pR (mkc (pR (mkc (pR (mkc (pR (mkc h (a + 1) 0 49) a 0 (some (a + 1))) (a + 2) 0 7) a 1 (some (a + 2))) (a + 3) 0 49) a 2 (some (a + 3))) (a + 4) 0 128) a 3 (some (a + 4))) (a + 5) 0 128) a 4 (some (a + 5))) (a + 6) 0 7) a 5 (some (a + 6))), (clr (clr (clr (clr (clr (clr I (a + 1)) (a + 2)) (a + 3)) (a + 4)) (a + 5)) (a + 6)), (clr (clr (clr (clr (clr (clr J (a + 1)) (a + 2)) (a + 3)) (a + 4)) (a + 5)) (a + 6)), ?_, ?_, ?_, ?_, ?_, ?_, ?_⟩
  · rw [r_Pa_init, e_Pa_init, cAl (show hN h = (a + 1) from hn) (show (49 : Int) = ((49 : Nat) : Int) from rfl) (by omega), cPut (show hT _ a = 13 by simp (disch := omega) only [ht, pR_T, mkc_Tn]) a3, cAl (show hN (pR (mkc h (a + 1) 0 49) a 0 (some (a + 1))) = (a + 2) from rfl) (show (7 : Int) = ((7 : Nat) : Int) from rfl) (by omega), cPut (show hT _ a = 13 by simp (disch := omega) only [ht, pR_T, mkc_Tn]) a3, cAl (show hN (pR (mkc (pR (mkc h (a + 1) 0 49) a 0 (some (a + 1))) (a + 2) 0 7) a 1 (some (a + 2))) = (a + 3) from rfl) (show (49 : Int) = ((49 : Nat) : Int) from rfl) (by omega), cPut (show hT _ a = 13 by simp (disch := omega) only [ht, pR_T, mkc_Tn]) a3, cAl (show hN (pR (mkc (pR (mkc (pR (mkc h (a + 1) 0 49) a 0 (some (a + 1))) (a + 2) 0 7) a 1 (some (a + 2))) (a + 3) 0 49) a 2 (some (a + 3))) = (a + 4) from rfl) (show (128 : Int) = ((128 : Nat) : Int) from rfl) (by omega), cPut (show hT _ a = 13 by simp (disch := omega) only [ht, pR_T, mkc_Tn]) a3, cAl (show hN (pR (mkc (pR (mkc (pR (mkc (pR (mkc h (a + 1) 0 49) a 0 (some (a + 1))) (a + 2) 0 7) a 1 (some (a + 2))) (a + 3) 0 49) a 2 (some (a + 3))) (a + 4) 0 128) a 3 (some (a + 4))) = (a + 5) from rfl) (show (128 : Int) = ((128 : Nat) : Int) from rfl) (by omega), cPut (show hT _ a = 13 by simp (disch := omega) only [ht, pR_T, mkc_Tn]) a3, cAl (show hN (pR (mkc (pR (mkc (pR (mkc (pR (mkc (pR (mkc h (a + 1) 0 49) a 0 (some (a + 1))) (a + 2) 0 7) a 1 (some (a + 2))) (a + 3) 0 49) a 2 (some (a + 3))) (a + 4) 0 128) a 3 (some (a + 4))) (a + 5) 0 128) a 4 (some (a + 5))) = (a + 6) from rfl) (show (7 : Int) = ((7 : Nat) : Int) from rfl) (by omega), cPut (show hT _ a = 13 by simp (disch := omega) only [ht, pR_T, mkc_Tn]) a3]
  · intro b hb
    refine ⟨?_, ?_, ?_, ?_, ?_⟩ <;> simp (disch := omega) only [mkc_Tn, mkc_Te, mkc_Ln, mkc_Le, mkc_Rn, mkc_Re, pR_T, pR_L, pR_Rn, pR_Re, pR_Ri, clr_e, clr_n, up_na, mkc_N, mkc_S, pR_N, pR_S]
  · refine ⟨?_, ?_, ?_, ?_⟩
    · simp (disch := omega) only [mkc_Tn, mkc_Te, mkc_Ln, mkc_Le, mkc_Rn, mkc_Re, pR_T, pR_L, pR_Rn, pR_Re, pR_Ri, clr_e, clr_n, up_na, mkc_N, mkc_S, pR_N, pR_S]
    · simp (disch := omega) only [mkc_Tn, mkc_Te, mkc_Ln, mkc_Le, mkc_Rn, mkc_Re, pR_T, pR_L, pR_Rn, pR_Re, pR_Ri, clr_e, clr_n, up_na, mkc_N, mkc_S, pR_N, pR_S]
    · funext i
      simp (disch := omega) only [mkc_Tn, mkc_Te, mkc_Ln, mkc_Le, mkc_Rn, mkc_Re, pR_T, pR_L, pR_Rn, pR_Re, pR_Ri, clr_e, clr_n, up_na, mkc_N, mkc_S, pR_N, pR_S, up_at, hz]
      try (repeat' split) <;> first | rfl | omega
    · simp (disch := omega) only [mkc_Tn, mkc_Te, mkc_Ln, mkc_Le, mkc_Rn, mkc_Re, pR_T, pR_L, pR_Rn, pR_Re, pR_Ri, clr_e, clr_n, up_na, mkc_N, mkc_S, pR_N, pR_S]
  · rfl
  · simp only [mkc_S, pR_S]
    try omega
  · refine ⟨a3, by simp (disch := omega) only [mkc_Tn, mkc_Te, mkc_Ln, mkc_Le, mkc_Rn, mkc_Re, pR_T, pR_L, pR_Rn, pR_Re, pR_Ri, clr_e, clr_n, up_na, mkc_N, mkc_S, pR_N, pR_S, ht], by simp (disch := omega) only [mkc_Tn, mkc_Te, mkc_Ln, mkc_Le, mkc_Rn, mkc_Re, pR_T, pR_L, pR_Rn, pR_Re, pR_Ri, clr_e, clr_n, up_na, mkc_N, mkc_S, pR_N, pR_S, ht], by simp (disch := omega) only [mkc_Tn, mkc_Te, mkc_Ln, mkc_Le, mkc_Rn, mkc_Re, pR_T, pR_L, pR_Rn, pR_Re, pR_Ri, clr_e, clr_n, up_na, mkc_N, mkc_S, pR_N, pR_S, ht], by simp (disch := omega) only [mkc_Tn, mkc_Te, mkc_Ln, mkc_Le, mkc_Rn, mkc_Re, pR_T, pR_L, pR_Rn, pR_Re, pR_Ri, clr_e, clr_n, up_na, mkc_N, mkc_S, pR_N, pR_S, ht], by simp (disch := omega) only [mkc_Tn, mkc_Te, mkc_Ln, mkc_Le, mkc_Rn, mkc_Re, pR_T, pR_L, pR_Rn, pR_Re, pR_Ri, clr_e, clr_n, up_na, mkc_N, mkc_S, pR_N, pR_S, ht], by simp (disch := omega) only [mkc_Tn, mkc_Te, mkc_Ln, mkc_Le, mkc_Rn, mkc_Re, pR_T, pR_L, pR_Rn, pR_Re, pR_Ri, clr_e, clr_n, up_na, mkc_N, mkc_S, pR_N, pR_S, ht], by simp (disch := omega) only [mkc_Tn, mkc_Te, mkc_Ln, mkc_Le, mkc_Rn, mkc_Re, pR_T, pR_L, pR_Rn, pR_Re, pR_Ri, clr_e, clr_n, up_na, mkc_N, mkc_S, pR_N, pR_S, ht], by simp (disch := omega) only [mkc_Tn, mkc_Te, mkc_Ln, mkc_Le, mkc_Rn, mkc_Re, pR_T, pR_L, pR_Rn, pR_Re, pR_Ri, clr_e, clr_n, up_na, mkc_N, mkc_S, pR_N, pR_S, ht], by simp (disch := omega) only [mkc_Tn, mkc_Te, mkc_Ln, mkc_Le, mkc_Rn, mkc_Re, pR_T, pR_L, pR_Rn, pR_Re, pR_Ri, clr_e, clr_n, up_na, mkc_N, mkc_S, pR_N, pR_S, ht], by simp (disch := omega) only [mkc_Tn, mkc_Te, mkc_Ln, mkc_Le, mkc_Rn, mkc_Re, pR_T, pR_L, pR_Rn, pR_Re, pR_Ri, clr_e, clr_n, up_na, mkc_N, mkc_S, pR_N, pR_S, ht], by simp (disch := omega) only [mkc_Tn, mkc_Te, mkc_Ln, mkc_Le, mkc_Rn, mkc_Re, pR_T, pR_L, pR_Rn, pR_Re, pR_Ri, clr_e, clr_n, up_na, mkc_N, mkc_S, pR_N, pR_S, ht], by simp (disch := omega) only [mkc_Tn, mkc_Te, mkc_Ln, mkc_Le, mkc_Rn, mkc_Re, pR_T, pR_L, pR_Rn, pR_Re, pR_Ri, clr_e, clr_n, up_na, mkc_N, mkc_S, pR_N, pR_S, ht], by simp (disch := omega) only [mkc_Tn, mkc_Te, mkc_Ln, mkc_Le, mkc_Rn, mkc_Re, pR_T, pR_L, pR_Rn, pR_Re, pR_Ri, clr_e, clr_n, up_na, mkc_N, mkc_S, pR_N, pR_S, ht], by simp (disch := omega) only [mkc_Tn, mkc_Te, mkc_Ln, mkc_Le, mkc_Rn, mkc_Re, pR_T, pR_L, pR_Rn, pR_Re, pR_Ri, clr_e, clr_n, up_na, mkc_N, mkc_S, pR_N, pR_S, ht], by simp (disch := omega) only [mkc_Tn, mkc_Te, mkc_Ln, mkc_Le, mkc_Rn, mkc_Re, pR_T, pR_L, pR_Rn, pR_Re, pR_Ri, clr_e, clr_n, up_na, mkc_N, mkc_S, pR_N, pR_S, ht], by simp (disch := omega) only [mkc_Tn, mkc_Te, mkc_Ln, mkc_Le, mkc_Rn, mkc_Re, pR_T, pR_L, pR_Rn, pR_Re, pR_Ri, clr_e, clr_n, up_na, mkc_N, mkc_S, pR_N, pR_S, ht], by simp (disch := omega) only [mkc_Tn, mkc_Te, mkc_Ln, mkc_Le, mkc_Rn, mkc_Re, pR_T, pR_L, pR_Rn, pR_Re, pR_Ri, clr_e, clr_n, up_na, mkc_N, mkc_S, pR_N, pR_S, ht], by simp (disch := omega) only [mkc_Tn, mkc_Te, mkc_Ln, mkc_Le, mkc_Rn, mkc_Re, pR_T, pR_L, pR_Rn, pR_Re, pR_Ri, clr_e, clr_n, up_na, mkc_N, mkc_S, pR_N, pR_S, ht], by simp (disch := omega) only [mkc_Tn, mkc_Te, mkc_Ln, mkc_Le, mkc_Rn, mkc_Re, pR_T, pR_L, pR_Rn, pR_Re, pR_Ri, clr_e, clr_n, up_na, mkc_N, mkc_S, pR_N, pR_S, ht]⟩
  · intro b b1 b2
    rcases (show b = a + 1 ∨ b = a + 2 ∨ b = a + 3 ∨ b = a + 4 ∨ b = a + 5 ∨ b = a + 6 by omega) with z | z | z | z | z | z
    · subst z
      constructor <;> simp (disch := omega) only [mkc_Tn, mkc_Te, mkc_Ln, mkc_Le, mkc_Rn, mkc_Re, pR_T, pR_L, pR_Rn, pR_Re, pR_Ri, clr_e, clr_n, up_na, mkc_N, mkc_S, pR_N, pR_S]
    · subst z
      constructor <;> simp (disch := omega) only [mkc_Tn, mkc_Te, mkc_Ln, mkc_Le, mkc_Rn, mkc_Re, pR_T, pR_L, pR_Rn, pR_Re, pR_Ri, clr_e, clr_n, up_na, mkc_N, mkc_S, pR_N, pR_S]
    · subst z
      constructor <;> simp (disch := omega) only [mkc_Tn, mkc_Te, mkc_Ln, mkc_Le, mkc_Rn, mkc_Re, pR_T, pR_L, pR_Rn, pR_Re, pR_Ri, clr_e, clr_n, up_na, mkc_N, mkc_S, pR_N, pR_S]
    · subst z
      constructor <;> simp (disch := omega) only [mkc_Tn, mkc_Te, mkc_Ln, mkc_Le, mkc_Rn, mkc_Re, pR_T, pR_L, pR_Rn, pR_Re, pR_Ri, clr_e, clr_n, up_na, mkc_N, mkc_S, pR_N, pR_S]
    · subst z
      constructor <;> simp (disch := omega) only [mkc_Tn, mkc_Te, mkc_Ln, mkc_Le, mkc_Rn, mkc_Re, pR_T, pR_L, pR_Rn, pR_Re, pR_Ri, clr_e, clr_n, up_na, mkc_N, mkc_S, pR_N, pR_S]
    · subst z
      constructor <;> simp (disch := omega) only [mkc_Tn, mkc_Te, mkc_Ln, mkc_Le, mkc_Rn, mkc_Re, pR_T, pR_L, pR_Rn, pR_Re, pR_Ri, clr_e, clr_n, up_na, mkc_N, mkc_S, pR_N, pR_S]
theorem c_Tp {d : Nat} {h : IH} {I J : Nat → Nat → Int} {a : Nat} (a3 : 3 ≤ a) (ht : hT h a = 18) (hn : hN h = a + 1) (hz : I a = fun _ => 0) : ∃ (h' : IH) (I' J' : Nat → Nat → Int), rn (d + 1) 79 [iR (some a)] (st h I J) = some (o0, st h' I' J') ∧ cKp h I J h' I' J' a ∧ (hT h' a = hT h a ∧ hL h' a = hL h a ∧ I' a = (fun i : Nat => 0) ∧ J' a = J a) ∧ hN h' = a + 2 ∧ hS h' = hS h + (400) ∧ ShTp h' a ∧ (∀ b, a < b → b < a + 2 → (I' b = fun _ => 0) ∧ (J' b = fun _ => 0)) := by
  refine ⟨(pR (mkc h (a + 1) 0 400) a 0 (some (a + 1))), (up (clr I (a + 1)) a 1 0), (clr J (a + 1)), ?_, ?_, ?_, ?_, ?_, ?_, ?_⟩
  · rw [r_Tp_init, e_Tp_init, cAl (show hN h = (a + 1) from hn) (show (400 : Int) = ((400 : Nat) : Int) from rfl) (by omega), cPut (show hT _ a = 18 by simp (disch := omega) only [ht, pR_T, mkc_Tn]) a3, ypI (show hT _ a = 18 by simp (disch := omega) only [ht, pR_T, mkc_Tn]) a3]
  · intro b hb
    refine ⟨?_, ?_, ?_, ?_, ?_⟩ <;> simp (disch := omega) only [mkc_Tn, mkc_Te, mkc_Ln, mkc_Le, mkc_Rn, mkc_Re, pR_T, pR_L, pR_Rn, pR_Re, pR_Ri, clr_e, clr_n, up_na, mkc_N, mkc_S, pR_N, pR_S]
  · refine ⟨?_, ?_, ?_, ?_⟩
    · simp (disch := omega) only [mkc_Tn, mkc_Te, mkc_Ln, mkc_Le, mkc_Rn, mkc_Re, pR_T, pR_L, pR_Rn, pR_Re, pR_Ri, clr_e, clr_n, up_na, mkc_N, mkc_S, pR_N, pR_S]
    · simp (disch := omega) only [mkc_Tn, mkc_Te, mkc_Ln, mkc_Le, mkc_Rn, mkc_Re, pR_T, pR_L, pR_Rn, pR_Re, pR_Ri, clr_e, clr_n, up_na, mkc_N, mkc_S, pR_N, pR_S]
    · funext i
      simp (disch := omega) only [mkc_Tn, mkc_Te, mkc_Ln, mkc_Le, mkc_Rn, mkc_Re, pR_T, pR_L, pR_Rn, pR_Re, pR_Ri, clr_e, clr_n, up_na, mkc_N, mkc_S, pR_N, pR_S, up_at, hz]
      try (repeat' split) <;> first | rfl | omega
    · simp (disch := omega) only [mkc_Tn, mkc_Te, mkc_Ln, mkc_Le, mkc_Rn, mkc_Re, pR_T, pR_L, pR_Rn, pR_Re, pR_Ri, clr_e, clr_n, up_na, mkc_N, mkc_S, pR_N, pR_S]
  · rfl
  · simp only [mkc_S, pR_S]
    try omega
  · refine ⟨a3, by simp (disch := omega) only [mkc_Tn, mkc_Te, mkc_Ln, mkc_Le, mkc_Rn, mkc_Re, pR_T, pR_L, pR_Rn, pR_Re, pR_Ri, clr_e, clr_n, up_na, mkc_N, mkc_S, pR_N, pR_S, ht], by simp (disch := omega) only [mkc_Tn, mkc_Te, mkc_Ln, mkc_Le, mkc_Rn, mkc_Re, pR_T, pR_L, pR_Rn, pR_Re, pR_Ri, clr_e, clr_n, up_na, mkc_N, mkc_S, pR_N, pR_S, ht], by simp (disch := omega) only [mkc_Tn, mkc_Te, mkc_Ln, mkc_Le, mkc_Rn, mkc_Re, pR_T, pR_L, pR_Rn, pR_Re, pR_Ri, clr_e, clr_n, up_na, mkc_N, mkc_S, pR_N, pR_S, ht], by simp (disch := omega) only [mkc_Tn, mkc_Te, mkc_Ln, mkc_Le, mkc_Rn, mkc_Re, pR_T, pR_L, pR_Rn, pR_Re, pR_Ri, clr_e, clr_n, up_na, mkc_N, mkc_S, pR_N, pR_S, ht]⟩
  · intro b b1 b2
    rcases (show b = a + 1 by omega) with z
    · subst z
      constructor <;> simp (disch := omega) only [mkc_Tn, mkc_Te, mkc_Ln, mkc_Le, mkc_Rn, mkc_Re, pR_T, pR_L, pR_Rn, pR_Re, pR_Ri, clr_e, clr_n, up_na, mkc_N, mkc_S, pR_N, pR_S]
theorem c_Wh {d : Nat} {h : IH} {I J : Nat → Nat → Int} {a : Nat} (a3 : 3 ≤ a) (ht : hT h a = 20) (hn : hN h = a + 1) (hz : I a = fun _ => 0) : ∃ (h' : IH) (I' J' : Nat → Nat → Int), rn (d + 1) 88 [iR (some a)] (st h I J) = some (o0, st h' I' J') ∧ cKp h I J h' I' J' a ∧ (hT h' a = hT h a ∧ hL h' a = hL h a ∧ I' a = (fun i : Nat => if i < 4 then -1 else 0) ∧ J' a = J a) ∧ hN h' = a + 3 ∧ hS h' = hS h + (98) ∧ (ShWh h' a ∧ hR h' a 6 = none) ∧ (∀ b, a < b → b < a + 3 → (I' b = fun _ => 0) ∧ (J' b = fun _ => 0)) := by
  refine ⟨(pR (pR (pR (pR (mkc (pR (mkc h (a + 1) 0 49) a 4 (some (a + 1))) (a + 2) 0 49) a 5 (some (a + 2))) a 6 none) a 7 none) a 8 none), (clr (clr (up (up (up (up I a 0 (-1)) a 1 (-1)) a 2 (-1)) a 3 (-1)) (a + 1)) (a + 2)), (clr (clr J (a + 1)) (a + 2)), ?_, ?_, ?_, ?_, ?_, ?_, ?_⟩
  · rw [r_Wh_init, e_Wh_init, ypI (show hT _ a = 20 by simp (disch := omega) only [ht, pR_T, mkc_Tn]) a3, ypI (show hT _ a = 20 by simp (disch := omega) only [ht, pR_T, mkc_Tn]) a3, ypI (show hT _ a = 20 by simp (disch := omega) only [ht, pR_T, mkc_Tn]) a3, ypI (show hT _ a = 20 by simp (disch := omega) only [ht, pR_T, mkc_Tn]) a3, cAl (show hN h = (a + 1) from hn) (show (49 : Int) = ((49 : Nat) : Int) from rfl) (by omega), cPut (show hT _ a = 20 by simp (disch := omega) only [ht, pR_T, mkc_Tn]) a3, cAl (show hN (pR (mkc h (a + 1) 0 49) a 4 (some (a + 1))) = (a + 2) from rfl) (show (49 : Int) = ((49 : Nat) : Int) from rfl) (by omega), cPut (show hT _ a = 20 by simp (disch := omega) only [ht, pR_T, mkc_Tn]) a3, cPut (show hT _ a = 20 by simp (disch := omega) only [ht, pR_T, mkc_Tn]) a3, cPut (show hT _ a = 20 by simp (disch := omega) only [ht, pR_T, mkc_Tn]) a3, cPut (show hT _ a = 20 by simp (disch := omega) only [ht, pR_T, mkc_Tn]) a3]
  · intro b hb
    refine ⟨?_, ?_, ?_, ?_, ?_⟩ <;> simp (disch := omega) only [mkc_Tn, mkc_Te, mkc_Ln, mkc_Le, mkc_Rn, mkc_Re, pR_T, pR_L, pR_Rn, pR_Re, pR_Ri, clr_e, clr_n, up_na, mkc_N, mkc_S, pR_N, pR_S]
  · refine ⟨?_, ?_, ?_, ?_⟩
    · simp (disch := omega) only [mkc_Tn, mkc_Te, mkc_Ln, mkc_Le, mkc_Rn, mkc_Re, pR_T, pR_L, pR_Rn, pR_Re, pR_Ri, clr_e, clr_n, up_na, mkc_N, mkc_S, pR_N, pR_S]
    · simp (disch := omega) only [mkc_Tn, mkc_Te, mkc_Ln, mkc_Le, mkc_Rn, mkc_Re, pR_T, pR_L, pR_Rn, pR_Re, pR_Ri, clr_e, clr_n, up_na, mkc_N, mkc_S, pR_N, pR_S]
    · funext i
      simp (disch := omega) only [mkc_Tn, mkc_Te, mkc_Ln, mkc_Le, mkc_Rn, mkc_Re, pR_T, pR_L, pR_Rn, pR_Re, pR_Ri, clr_e, clr_n, up_na, mkc_N, mkc_S, pR_N, pR_S, up_at, hz]
      try (repeat' split) <;> first | rfl | omega
    · simp (disch := omega) only [mkc_Tn, mkc_Te, mkc_Ln, mkc_Le, mkc_Rn, mkc_Re, pR_T, pR_L, pR_Rn, pR_Re, pR_Ri, clr_e, clr_n, up_na, mkc_N, mkc_S, pR_N, pR_S]
  · rfl
  · simp only [mkc_S, pR_S]
    try omega
  · refine ⟨⟨a3, by simp (disch := omega) only [mkc_Tn, mkc_Te, mkc_Ln, mkc_Le, mkc_Rn, mkc_Re, pR_T, pR_L, pR_Rn, pR_Re, pR_Ri, clr_e, clr_n, up_na, mkc_N, mkc_S, pR_N, pR_S, ht], by simp (disch := omega) only [mkc_Tn, mkc_Te, mkc_Ln, mkc_Le, mkc_Rn, mkc_Re, pR_T, pR_L, pR_Rn, pR_Re, pR_Ri, clr_e, clr_n, up_na, mkc_N, mkc_S, pR_N, pR_S, ht], by simp (disch := omega) only [mkc_Tn, mkc_Te, mkc_Ln, mkc_Le, mkc_Rn, mkc_Re, pR_T, pR_L, pR_Rn, pR_Re, pR_Ri, clr_e, clr_n, up_na, mkc_N, mkc_S, pR_N, pR_S, ht], by simp (disch := omega) only [mkc_Tn, mkc_Te, mkc_Ln, mkc_Le, mkc_Rn, mkc_Re, pR_T, pR_L, pR_Rn, pR_Re, pR_Ri, clr_e, clr_n, up_na, mkc_N, mkc_S, pR_N, pR_S, ht], by simp (disch := omega) only [mkc_Tn, mkc_Te, mkc_Ln, mkc_Le, mkc_Rn, mkc_Re, pR_T, pR_L, pR_Rn, pR_Re, pR_Ri, clr_e, clr_n, up_na, mkc_N, mkc_S, pR_N, pR_S, ht], by simp (disch := omega) only [mkc_Tn, mkc_Te, mkc_Ln, mkc_Le, mkc_Rn, mkc_Re, pR_T, pR_L, pR_Rn, pR_Re, pR_Ri, clr_e, clr_n, up_na, mkc_N, mkc_S, pR_N, pR_S, ht], by simp (disch := omega) only [mkc_Tn, mkc_Te, mkc_Ln, mkc_Le, mkc_Rn, mkc_Re, pR_T, pR_L, pR_Rn, pR_Re, pR_Ri, clr_e, clr_n, up_na, mkc_N, mkc_S, pR_N, pR_S, ht]⟩, by simp (disch := omega) only [mkc_Tn, mkc_Te, mkc_Ln, mkc_Le, mkc_Rn, mkc_Re, pR_T, pR_L, pR_Rn, pR_Re, pR_Ri, clr_e, clr_n, up_na, mkc_N, mkc_S, pR_N, pR_S, ht]⟩
  · intro b b1 b2
    rcases (show b = a + 1 ∨ b = a + 2 by omega) with z | z
    · subst z
      constructor <;> simp (disch := omega) only [mkc_Tn, mkc_Te, mkc_Ln, mkc_Le, mkc_Rn, mkc_Re, pR_T, pR_L, pR_Rn, pR_Re, pR_Ri, clr_e, clr_n, up_na, mkc_N, mkc_S, pR_N, pR_S]
    · subst z
      constructor <;> simp (disch := omega) only [mkc_Tn, mkc_Te, mkc_Ln, mkc_Le, mkc_Rn, mkc_Re, pR_T, pR_L, pR_Rn, pR_Re, pR_Ri, clr_e, clr_n, up_na, mkc_N, mkc_S, pR_N, pR_S]
theorem c_Tx {d : Nat} {h : IH} {I J : Nat → Nat → Int} {a : Nat} {n m : Nat} {x y : Int} (hx : x = (n : Int)) (hy : y = (m : Int)) (hn1 : n ≤ 1000) (hm1 : m ≤ 1000) (a3 : 3 ≤ a) (ht : hT h a = 19) (hn : hN h = a + 1) (hz : I a = fun _ => 0) : ∃ (h' : IH) (I' J' : Nat → Nat → Int), rn (d + 1) 82 [iR (some a), iI x, iI y] (st h I J) = some (o0, st h' I' J') ∧ cKp h I J h' I' J' a ∧ (hT h' a = hT h a ∧ hL h' a = hL h a ∧ I' a = (fun i : Nat => 0) ∧ J' a = J a) ∧ hN h' = a + 7 ∧ hS h' = hS h + (2 * n + 10 * m) ∧ TxRw h' a n m ∧ (∀ b, a < b → b < a + 7 → (I' b = fun _ => 0) ∧ (J' b = fun _ => 0)) := by
  refine ⟨(pR (mkc (pR (mkc (pR (mkc (pR (mkc (pR (mkc (pR (mkc h (a + 1) 0 n) a 0 (some (a + 1))) (a + 2) 0 n) a 1 (some (a + 2))) (a + 3) 0 m) a 2 (some (a + 3))) (a + 4) 0 m) a 3 (some (a + 4))) (a + 5) 0 (4 * m)) a 4 (some (a + 5))) (a + 6) 0 (4 * m)) a 5 (some (a + 6))), (clr (clr (clr (clr (clr (clr (up (up I a 6 0) a 7 0) (a + 1)) (a + 2)) (a + 3)) (a + 4)) (a + 5)) (a + 6)), (clr (clr (clr (clr (clr (clr J (a + 1)) (a + 2)) (a + 3)) (a + 4)) (a + 5)) (a + 6)), ?_, ?_, ?_, ?_, ?_, ?_, ?_⟩
  · rw [r_Tx_init, e_Tx_init, hx, hy, ypI (show hT _ a = 19 by simp (disch := omega) only [ht, pR_T, mkc_Tn]) a3, ypI (show hT _ a = 19 by simp (disch := omega) only [ht, pR_T, mkc_Tn]) a3, cAl (show hN h = (a + 1) from hn) (show (n : Int) = ((n : Nat) : Int) from rfl) (by omega), cPut (show hT _ a = 19 by simp (disch := omega) only [ht, pR_T, mkc_Tn]) a3, cAl (show hN (pR (mkc h (a + 1) 0 n) a 0 (some (a + 1))) = (a + 2) from rfl) (show (n : Int) = ((n : Nat) : Int) from rfl) (by omega), cPut (show hT _ a = 19 by simp (disch := omega) only [ht, pR_T, mkc_Tn]) a3, cAl (show hN (pR (mkc (pR (mkc h (a + 1) 0 n) a 0 (some (a + 1))) (a + 2) 0 n) a 1 (some (a + 2))) = (a + 3) from rfl) (show (m : Int) = ((m : Nat) : Int) from rfl) (by omega), cPut (show hT _ a = 19 by simp (disch := omega) only [ht, pR_T, mkc_Tn]) a3, cAl (show hN (pR (mkc (pR (mkc (pR (mkc h (a + 1) 0 n) a 0 (some (a + 1))) (a + 2) 0 n) a 1 (some (a + 2))) (a + 3) 0 m) a 2 (some (a + 3))) = (a + 4) from rfl) (show (m : Int) = ((m : Nat) : Int) from rfl) (by omega), cPut (show hT _ a = 19 by simp (disch := omega) only [ht, pR_T, mkc_Tn]) a3, cAl (show hN (pR (mkc (pR (mkc (pR (mkc (pR (mkc h (a + 1) 0 n) a 0 (some (a + 1))) (a + 2) 0 n) a 1 (some (a + 2))) (a + 3) 0 m) a 2 (some (a + 3))) (a + 4) 0 m) a 3 (some (a + 4))) = (a + 5) from rfl) (show wr ((m : Int) * 4) = ((4 * m : Nat) : Int) by rw [wr_id (by omega) (by omega)]; omega) (by omega), cPut (show hT _ a = 19 by simp (disch := omega) only [ht, pR_T, mkc_Tn]) a3, cAl (show hN (pR (mkc (pR (mkc (pR (mkc (pR (mkc (pR (mkc h (a + 1) 0 n) a 0 (some (a + 1))) (a + 2) 0 n) a 1 (some (a + 2))) (a + 3) 0 m) a 2 (some (a + 3))) (a + 4) 0 m) a 3 (some (a + 4))) (a + 5) 0 (4 * m)) a 4 (some (a + 5))) = (a + 6) from rfl) (show wr ((m : Int) * 4) = ((4 * m : Nat) : Int) by rw [wr_id (by omega) (by omega)]; omega) (by omega), cPut (show hT _ a = 19 by simp (disch := omega) only [ht, pR_T, mkc_Tn]) a3]
  · intro b hb
    refine ⟨?_, ?_, ?_, ?_, ?_⟩ <;> simp (disch := omega) only [mkc_Tn, mkc_Te, mkc_Ln, mkc_Le, mkc_Rn, mkc_Re, pR_T, pR_L, pR_Rn, pR_Re, pR_Ri, clr_e, clr_n, up_na, mkc_N, mkc_S, pR_N, pR_S]
  · refine ⟨?_, ?_, ?_, ?_⟩
    · simp (disch := omega) only [mkc_Tn, mkc_Te, mkc_Ln, mkc_Le, mkc_Rn, mkc_Re, pR_T, pR_L, pR_Rn, pR_Re, pR_Ri, clr_e, clr_n, up_na, mkc_N, mkc_S, pR_N, pR_S]
    · simp (disch := omega) only [mkc_Tn, mkc_Te, mkc_Ln, mkc_Le, mkc_Rn, mkc_Re, pR_T, pR_L, pR_Rn, pR_Re, pR_Ri, clr_e, clr_n, up_na, mkc_N, mkc_S, pR_N, pR_S]
    · funext i
      simp (disch := omega) only [mkc_Tn, mkc_Te, mkc_Ln, mkc_Le, mkc_Rn, mkc_Re, pR_T, pR_L, pR_Rn, pR_Re, pR_Ri, clr_e, clr_n, up_na, mkc_N, mkc_S, pR_N, pR_S, up_at, hz]
      try (repeat' split) <;> first | rfl | omega
    · simp (disch := omega) only [mkc_Tn, mkc_Te, mkc_Ln, mkc_Le, mkc_Rn, mkc_Re, pR_T, pR_L, pR_Rn, pR_Re, pR_Ri, clr_e, clr_n, up_na, mkc_N, mkc_S, pR_N, pR_S]
  · rfl
  · simp only [mkc_S, pR_S]
    try omega
  · refine ⟨⟨a3, by simp (disch := omega) only [mkc_Tn, mkc_Te, mkc_Ln, mkc_Le, mkc_Rn, mkc_Re, pR_T, pR_L, pR_Rn, pR_Re, pR_Ri, clr_e, clr_n, up_na, mkc_N, mkc_S, pR_N, pR_S, ht], by simp (disch := omega) only [mkc_Tn, mkc_Te, mkc_Ln, mkc_Le, mkc_Rn, mkc_Re, pR_T, pR_L, pR_Rn, pR_Re, pR_Ri, clr_e, clr_n, up_na, mkc_N, mkc_S, pR_N, pR_S, ht], by simp (disch := omega) only [mkc_Tn, mkc_Te, mkc_Ln, mkc_Le, mkc_Rn, mkc_Re, pR_T, pR_L, pR_Rn, pR_Re, pR_Ri, clr_e, clr_n, up_na, mkc_N, mkc_S, pR_N, pR_S, ht], by simp (disch := omega) only [mkc_Tn, mkc_Te, mkc_Ln, mkc_Le, mkc_Rn, mkc_Re, pR_T, pR_L, pR_Rn, pR_Re, pR_Ri, clr_e, clr_n, up_na, mkc_N, mkc_S, pR_N, pR_S, ht], by simp (disch := omega) only [mkc_Tn, mkc_Te, mkc_Ln, mkc_Le, mkc_Rn, mkc_Re, pR_T, pR_L, pR_Rn, pR_Re, pR_Ri, clr_e, clr_n, up_na, mkc_N, mkc_S, pR_N, pR_S, ht], by simp (disch := omega) only [mkc_Tn, mkc_Te, mkc_Ln, mkc_Le, mkc_Rn, mkc_Re, pR_T, pR_L, pR_Rn, pR_Re, pR_Ri, clr_e, clr_n, up_na, mkc_N, mkc_S, pR_N, pR_S, ht], by simp (disch := omega) only [mkc_Tn, mkc_Te, mkc_Ln, mkc_Le, mkc_Rn, mkc_Re, pR_T, pR_L, pR_Rn, pR_Re, pR_Ri, clr_e, clr_n, up_na, mkc_N, mkc_S, pR_N, pR_S, ht]⟩, ⟨by simp (disch := omega) only [mkc_Tn, mkc_Te, mkc_Ln, mkc_Le, mkc_Rn, mkc_Re, pR_T, pR_L, pR_Rn, pR_Re, pR_Ri, clr_e, clr_n, up_na, mkc_N, mkc_S, pR_N, pR_S, ht], by simp (disch := omega) only [mkc_Tn, mkc_Te, mkc_Ln, mkc_Le, mkc_Rn, mkc_Re, pR_T, pR_L, pR_Rn, pR_Re, pR_Ri, clr_e, clr_n, up_na, mkc_N, mkc_S, pR_N, pR_S, ht]⟩, ⟨by simp (disch := omega) only [mkc_Tn, mkc_Te, mkc_Ln, mkc_Le, mkc_Rn, mkc_Re, pR_T, pR_L, pR_Rn, pR_Re, pR_Ri, clr_e, clr_n, up_na, mkc_N, mkc_S, pR_N, pR_S, ht], by simp (disch := omega) only [mkc_Tn, mkc_Te, mkc_Ln, mkc_Le, mkc_Rn, mkc_Re, pR_T, pR_L, pR_Rn, pR_Re, pR_Ri, clr_e, clr_n, up_na, mkc_N, mkc_S, pR_N, pR_S, ht]⟩, ⟨by simp (disch := omega) only [mkc_Tn, mkc_Te, mkc_Ln, mkc_Le, mkc_Rn, mkc_Re, pR_T, pR_L, pR_Rn, pR_Re, pR_Ri, clr_e, clr_n, up_na, mkc_N, mkc_S, pR_N, pR_S, ht], by simp (disch := omega) only [mkc_Tn, mkc_Te, mkc_Ln, mkc_Le, mkc_Rn, mkc_Re, pR_T, pR_L, pR_Rn, pR_Re, pR_Ri, clr_e, clr_n, up_na, mkc_N, mkc_S, pR_N, pR_S, ht]⟩, ⟨by simp (disch := omega) only [mkc_Tn, mkc_Te, mkc_Ln, mkc_Le, mkc_Rn, mkc_Re, pR_T, pR_L, pR_Rn, pR_Re, pR_Ri, clr_e, clr_n, up_na, mkc_N, mkc_S, pR_N, pR_S, ht], by simp (disch := omega) only [mkc_Tn, mkc_Te, mkc_Ln, mkc_Le, mkc_Rn, mkc_Re, pR_T, pR_L, pR_Rn, pR_Re, pR_Ri, clr_e, clr_n, up_na, mkc_N, mkc_S, pR_N, pR_S, ht]⟩, ⟨by simp (disch := omega) only [mkc_Tn, mkc_Te, mkc_Ln, mkc_Le, mkc_Rn, mkc_Re, pR_T, pR_L, pR_Rn, pR_Re, pR_Ri, clr_e, clr_n, up_na, mkc_N, mkc_S, pR_N, pR_S, ht], by simp (disch := omega) only [mkc_Tn, mkc_Te, mkc_Ln, mkc_Le, mkc_Rn, mkc_Re, pR_T, pR_L, pR_Rn, pR_Re, pR_Ri, clr_e, clr_n, up_na, mkc_N, mkc_S, pR_N, pR_S, ht]⟩, ⟨by simp (disch := omega) only [mkc_Tn, mkc_Te, mkc_Ln, mkc_Le, mkc_Rn, mkc_Re, pR_T, pR_L, pR_Rn, pR_Re, pR_Ri, clr_e, clr_n, up_na, mkc_N, mkc_S, pR_N, pR_S, ht], by simp (disch := omega) only [mkc_Tn, mkc_Te, mkc_Ln, mkc_Le, mkc_Rn, mkc_Re, pR_T, pR_L, pR_Rn, pR_Re, pR_Ri, clr_e, clr_n, up_na, mkc_N, mkc_S, pR_N, pR_S, ht]⟩⟩
  · intro b b1 b2
    rcases (show b = a + 1 ∨ b = a + 2 ∨ b = a + 3 ∨ b = a + 4 ∨ b = a + 5 ∨ b = a + 6 by omega) with z | z | z | z | z | z
    · subst z
      constructor <;> simp (disch := omega) only [mkc_Tn, mkc_Te, mkc_Ln, mkc_Le, mkc_Rn, mkc_Re, pR_T, pR_L, pR_Rn, pR_Re, pR_Ri, clr_e, clr_n, up_na, mkc_N, mkc_S, pR_N, pR_S]
    · subst z
      constructor <;> simp (disch := omega) only [mkc_Tn, mkc_Te, mkc_Ln, mkc_Le, mkc_Rn, mkc_Re, pR_T, pR_L, pR_Rn, pR_Re, pR_Ri, clr_e, clr_n, up_na, mkc_N, mkc_S, pR_N, pR_S]
    · subst z
      constructor <;> simp (disch := omega) only [mkc_Tn, mkc_Te, mkc_Ln, mkc_Le, mkc_Rn, mkc_Re, pR_T, pR_L, pR_Rn, pR_Re, pR_Ri, clr_e, clr_n, up_na, mkc_N, mkc_S, pR_N, pR_S]
    · subst z
      constructor <;> simp (disch := omega) only [mkc_Tn, mkc_Te, mkc_Ln, mkc_Le, mkc_Rn, mkc_Re, pR_T, pR_L, pR_Rn, pR_Re, pR_Ri, clr_e, clr_n, up_na, mkc_N, mkc_S, pR_N, pR_S]
    · subst z
      constructor <;> simp (disch := omega) only [mkc_Tn, mkc_Te, mkc_Ln, mkc_Le, mkc_Rn, mkc_Re, pR_T, pR_L, pR_Rn, pR_Re, pR_Ri, clr_e, clr_n, up_na, mkc_N, mkc_S, pR_N, pR_S]
    · subst z
      constructor <;> simp (disch := omega) only [mkc_Tn, mkc_Te, mkc_Ln, mkc_Le, mkc_Rn, mkc_Re, pR_T, pR_L, pR_Rn, pR_Re, pR_Ri, clr_e, clr_n, up_na, mkc_N, mkc_S, pR_N, pR_S]
theorem c_Rd {d : Nat} {h : IH} {I J : Nat → Nat → Int} {a : Nat} (a3 : 3 ≤ a) (ht : hT h a = 15) (hn : hN h = a + 1) (hz : I a = fun _ => 0) : ∃ (h' : IH) (I' J' : Nat → Nat → Int), rn (d + 2) 52 [iR (some a)] (st h I J) = some (o0, st h' I' J') ∧ cKp h I J h' I' J' a ∧ (hT h' a = hT h a ∧ hL h' a = hL h a ∧ I' a = (fun i : Nat => if i = 1 then -1 else if i = 5 then 1001 else 0) ∧ J' a = J a) ∧ hN h' = a + 9 ∧ hS h' = hS h + ((8 + (2 * 400 + 10 * 12)) + 0) ∧ ShRd h' a ∧ (∀ b, a < b → b < a + 9 → (I' b = fun _ => 0) ∧ (J' b = fun _ => 0)) := by
  obtain ⟨h1, I1, J1, e1, k1, ⟨o1T, o1L, o1I, o1J⟩, n1, z1, s1, x1⟩ := c_Tx (d := d) (h := (mkc h (a + 1) 19 8)) (I := (clr I (a + 1))) (J := (clr J (a + 1))) (a := (a + 1)) (n := 400) (m := 12) (x := 400) (y := 12) rfl rfl (by omega) (by omega) (by omega) (mkc_Te _) rfl clr_e
  have q1T : ∀ b, b < (a + 1) → hT h1 b = hT (mkc h (a + 1) 19 8) b := fun b hb => (k1 b hb).1
  have q1L : ∀ b, b < (a + 1) → hL h1 b = hL (mkc h (a + 1) 19 8) b := fun b hb => (k1 b hb).2.1
  have q1R : ∀ b, b < (a + 1) → hR h1 b = hR (mkc h (a + 1) 19 8) b := fun b hb => (k1 b hb).2.2.1
  have q1I : ∀ b, b < (a + 1) → I1 b = (clr I (a + 1)) b := fun b hb => (k1 b hb).2.2.2.1
  have q1J : ∀ b, b < (a + 1) → J1 b = (clr J (a + 1)) b := fun b hb => (k1 b hb).2.2.2.2
  refine ⟨(pR (mkc (pR h1 a 0 (some (a + 1))) (a + 8) 0 0) a 2 (some (a + 8))), (up (up (up (up (up (up (up (clr (up I1 a 1 (-1)) (a + 8)) a 3 0) a 4 0) a 5 1001) a 6 0) a 7 0) a 8 0) a 9 0), (clr J1 (a + 8)), ?_, ?_, ?_, ?_, ?_, ?_, ?_⟩
  · rw [r_Rd_init, e_Rd_init, cOb (show hN h = (a + 1) from hn) (show 10 + 9 = 19 from rfl) (show am_nf 9 = 8 from rfl), e1, kV_o, cPut (show hT _ a = 15 by simp (disch := omega) only [ht, q1T, pR_T, mkc_Tn]) a3, ypI (show hT _ a = 15 by simp (disch := omega) only [ht, q1T, pR_T, mkc_Tn]) a3, cAl (show hN (pR h1 a 0 (some (a + 1))) = (a + 8) from n1) (show (0 : Int) = ((0 : Nat) : Int) from rfl) (by omega), cPut (show hT _ a = 15 by simp (disch := omega) only [ht, q1T, pR_T, mkc_Tn]) a3, ypI (show hT _ a = 15 by simp (disch := omega) only [ht, q1T, pR_T, mkc_Tn]) a3, ypZ (show hT _ a = 15 by simp (disch := omega) only [ht, q1T, pR_T, mkc_Tn]) a3 (by decide), ypI (show hT _ a = 15 by simp (disch := omega) only [ht, q1T, pR_T, mkc_Tn]) a3, ypI (show hT _ a = 15 by simp (disch := omega) only [ht, q1T, pR_T, mkc_Tn]) a3, ypI (show hT _ a = 15 by simp (disch := omega) only [ht, q1T, pR_T, mkc_Tn]) a3, ypI (show hT _ a = 15 by simp (disch := omega) only [ht, q1T, pR_T, mkc_Tn]) a3, ypI (show hT _ a = 15 by simp (disch := omega) only [ht, q1T, pR_T, mkc_Tn]) a3]
  · intro b hb
    refine ⟨?_, ?_, ?_, ?_, ?_⟩ <;> simp (disch := omega) only [q1T, q1L, q1R, q1I, q1J, o1T, o1L, o1I, o1J, mkc_Tn, mkc_Te, mkc_Ln, mkc_Le, mkc_Rn, mkc_Re, pR_T, pR_L, pR_Rn, pR_Re, pR_Ri, clr_e, clr_n, up_na, mkc_N, mkc_S, pR_N, pR_S]
  · refine ⟨?_, ?_, ?_, ?_⟩
    · simp (disch := omega) only [q1T, q1L, q1R, q1I, q1J, o1T, o1L, o1I, o1J, mkc_Tn, mkc_Te, mkc_Ln, mkc_Le, mkc_Rn, mkc_Re, pR_T, pR_L, pR_Rn, pR_Re, pR_Ri, clr_e, clr_n, up_na, mkc_N, mkc_S, pR_N, pR_S]
    · simp (disch := omega) only [q1T, q1L, q1R, q1I, q1J, o1T, o1L, o1I, o1J, mkc_Tn, mkc_Te, mkc_Ln, mkc_Le, mkc_Rn, mkc_Re, pR_T, pR_L, pR_Rn, pR_Re, pR_Ri, clr_e, clr_n, up_na, mkc_N, mkc_S, pR_N, pR_S]
    · funext i
      simp (disch := omega) only [q1T, q1L, q1R, q1I, q1J, o1T, o1L, o1I, o1J, mkc_Tn, mkc_Te, mkc_Ln, mkc_Le, mkc_Rn, mkc_Re, pR_T, pR_L, pR_Rn, pR_Re, pR_Ri, clr_e, clr_n, up_na, mkc_N, mkc_S, pR_N, pR_S, up_at, hz]
      try (repeat' split) <;> first | rfl | omega
    · simp (disch := omega) only [q1T, q1L, q1R, q1I, q1J, o1T, o1L, o1I, o1J, mkc_Tn, mkc_Te, mkc_Ln, mkc_Le, mkc_Rn, mkc_Re, pR_T, pR_L, pR_Rn, pR_Re, pR_Ri, clr_e, clr_n, up_na, mkc_N, mkc_S, pR_N, pR_S]
  · rfl
  · simp only [mkc_S, pR_S, z1]
    try omega
  · refine ⟨a3, by simp (disch := omega) only [q1T, q1L, q1R, q1I, q1J, o1T, o1L, o1I, o1J, mkc_Tn, mkc_Te, mkc_Ln, mkc_Le, mkc_Rn, mkc_Re, pR_T, pR_L, pR_Rn, pR_Re, pR_Ri, clr_e, clr_n, up_na, mkc_N, mkc_S, pR_N, pR_S, ht], by simp (disch := omega) only [q1T, q1L, q1R, q1I, q1J, o1T, o1L, o1I, o1J, mkc_Tn, mkc_Te, mkc_Ln, mkc_Le, mkc_Rn, mkc_Re, pR_T, pR_L, pR_Rn, pR_Re, pR_Ri, clr_e, clr_n, up_na, mkc_N, mkc_S, pR_N, pR_S, ht], TxRw_tr s1 fun b b1 b2 => ⟨by simp (disch := omega) only [q1T, q1L, q1R, q1I, q1J, o1T, o1L, o1I, o1J, mkc_Tn, mkc_Te, mkc_Ln, mkc_Le, mkc_Rn, mkc_Re, pR_T, pR_L, pR_Rn, pR_Re, pR_Ri, clr_e, clr_n, up_na, mkc_N, mkc_S, pR_N, pR_S, ht], by simp (disch := omega) only [q1T, q1L, q1R, q1I, q1J, o1T, o1L, o1I, o1J, mkc_Tn, mkc_Te, mkc_Ln, mkc_Le, mkc_Rn, mkc_Re, pR_T, pR_L, pR_Rn, pR_Re, pR_Ri, clr_e, clr_n, up_na, mkc_N, mkc_S, pR_N, pR_S, ht], by simp (disch := omega) only [q1T, q1L, q1R, q1I, q1J, o1T, o1L, o1I, o1J, mkc_Tn, mkc_Te, mkc_Ln, mkc_Le, mkc_Rn, mkc_Re, pR_T, pR_L, pR_Rn, pR_Re, pR_Ri, clr_e, clr_n, up_na, mkc_N, mkc_S, pR_N, pR_S, ht]⟩⟩
  · intro b b1 b2
    rcases (show b = a + 1 ∨ (a + 1 < b ∧ b < a + 8) ∨ b = a + 8 by omega) with z | z | z
    · subst z
      constructor <;> simp (disch := omega) only [q1T, q1L, q1R, q1I, q1J, o1T, o1L, o1I, o1J, mkc_Tn, mkc_Te, mkc_Ln, mkc_Le, mkc_Rn, mkc_Re, pR_T, pR_L, pR_Rn, pR_Re, pR_Ri, clr_e, clr_n, up_na, mkc_N, mkc_S, pR_N, pR_S]
    · have y := x1 b z.1 z.2
      constructor
      · simp (disch := omega) only [mkc_Tn, mkc_Te, mkc_Ln, mkc_Le, mkc_Rn, mkc_Re, pR_T, pR_L, pR_Rn, pR_Re, pR_Ri, clr_e, clr_n, up_na, mkc_N, mkc_S, pR_N, pR_S, y.1]
      · simp (disch := omega) only [mkc_Tn, mkc_Te, mkc_Ln, mkc_Le, mkc_Rn, mkc_Re, pR_T, pR_L, pR_Rn, pR_Re, pR_Ri, clr_e, clr_n, up_na, mkc_N, mkc_S, pR_N, pR_S, y.2]
    · subst z
      constructor <;> simp (disch := omega) only [q1T, q1L, q1R, q1I, q1J, o1T, o1L, o1I, o1J, mkc_Tn, mkc_Te, mkc_Ln, mkc_Le, mkc_Rn, mkc_Re, pR_T, pR_L, pR_Rn, pR_Re, pR_Ri, clr_e, clr_n, up_na, mkc_N, mkc_S, pR_N, pR_S]
def homeI (I : Nat → Nat → Int) (a i : Nat) : Nat → Nat → Int := fun b => if b = a + 1 ∨ b = a + 2 then fun j => if i ≤ j ∧ j < 7 then (j : Int) else I b j else I b
theorem homeI_n {I : Nat → Nat → Int} {a i b : Nat} (z : b ≠ a + 1) (y : b ≠ a + 2) : homeI I a i b = I b := if_neg (by omega)
theorem homeI_e {I : Nat → Nat → Int} {a i b : Nat} (z : b = a + 1 ∨ b = a + 2) : homeI I a i b = fun j => if i ≤ j ∧ j < 7 then (j : Int) else I b j := if_pos z
theorem homeI_s (I : Nat → Nat → Int) (a i : Nat) (hi : i < 7) : homeI (up (up I (a + 1) i i) (a + 2) i i) a (i + 1) = homeI I a i := by
  funext b j
  by_cases z : b = a + 1 ∨ b = a + 2
  · rw [homeI_e z, homeI_e z]
    dsimp only
    by_cases y : j = i
    · subst y
      rw [if_neg (by omega), if_pos (by omega)]
      rcases z with rfl | rfl
      · rw [up_na (by omega), up_eq]
      · rw [up_eq]
    · rw [up_ni y, up_ni y]
      by_cases x : i ≤ j ∧ j < 7
      · rw [if_pos x, if_pos (by omega)]
      · rw [if_neg x, if_neg (by omega)]
  · rw [homeI_n (by omega) (by omega), homeI_n (by omega) (by omega), up_na (by omega), up_na (by omega)]
theorem homeI_7 (I : Nat → Nat → Int) (a : Nat) : homeI I a 7 = I := by
  funext b
  by_cases z : b = a + 1 ∨ b = a + 2
  · rw [homeI_e z]
    funext j
    rw [if_neg (by omega)]
  · rw [homeI_n (by omega) (by omega)]
theorem c_La_lp {d : Nat} {h : IH} {J : Nat → Nat → Int} {a : Nat} (hs : ShLand h a) : ∀ (k i n : Nat) (I : Nat → Nat → Int), i + k = 7 → lp d 8 (n + k + 1) 117 [some (iR (some a)), some (iI i)] [] (st h I J) = some (o0, st h (up (homeI I a i) (a + 8) 1 1) J) := by
  have a3 := La_3 hs
  intro k
  induction k with
  | zero =>
    intro i n I hk
    have : i = 7 := by omega
    subst this
    rw [e_La_init_117, if_neg (by omega), ygR (La_t hs) (La_r8 hs), xB_s, ysI (La_t8 hs) (by omega) (La_l8 hs) (by omega) (by omega), homeI_7]
    rfl
  | succ k ih =>
    intro i n I hk
    have hf : n + (k + 1) + 1 = (n + k + 1) + 1 := by omega
    rw [hf, e_La_init_117, if_pos (by omega), ygR (La_t hs) (La_r1 hs), xB_s, ysI (La_t1 hs) (by omega) (La_l1 hs) (by omega) (by omega), ygR (La_t hs) (La_r2 hs), xB_s, ysI (La_t2 hs) (by omega) (La_l2 hs) (by omega) (by omega), wr_id (by omega) (by omega), Int.toNat_natCast]
    have := ih (i + 1) n (up (up I (a + 1) i i) (a + 2) i i) (by omega)
    rw [homeI_s _ _ _ (by omega)] at this
    exact this
def landR (k : Nat) : Nat → Int := fun i => if k = 1 ∨ k = 2 then (if i < 7 then (i : Int) else 0) else if k = 8 then (if i = 1 then 1 else 0) else 0
theorem c_La {d : Nat} {h : IH} {I J : Nat → Nat → Int} {a : Nat} (q1 : hT h 1 = 0) (q2 : hL h 1 = 3) (a3 : 3 ≤ a) (ht : hT h a = 11) (hn : hN h = a + 1) (hz : I a = fun _ => 0) : ∃ (h' : IH) (I' J' : Nat → Nat → Int), rn (d + 1) 8 [iR (some a)] (st h I J) = some (o0, st h' I' J') ∧ cKp h I J h' I' J' a ∧ (hT h' a = hT h a ∧ hL h' a = hL h a ∧ I' a = (fun i : Nat => if i = 14 then -1 else 0) ∧ J' a = J a) ∧ hN h' = a + 12 ∧ hS h' = hS h + 154 ∧ (ShLand h' a ∧ hR h' (a + 11) = fun _ => none) ∧ (∀ b, a < b → b < a + 12 → (I' b = landR (b - a)) ∧ (J' b = fun _ => 0)) := by
  have sl : ShLand (pR (mkc (pR (mkc (pR (mkc (pR (mkc (pR (mkc (pR (mkc (pR (mkc (pR (mkc (pR (mkc (pR (mkc (pR (mkc h (a + 1) 0 7) a 1 (some (a + 1))) (a + 2) 0 7) a 2 (some (a + 2))) (a + 3) 0 7) a 3 (some (a + 3))) (a + 4) 0 7) a 4 (some (a + 4))) (a + 5) 0 49) a 5 (some (a + 5))) (a + 6) 0 49) a 6 (some (a + 6))) (a + 7) 0 7) a 7 (some (a + 7))) (a + 8) 0 3) a 8 (some (a + 8))) (a + 9) 0 6) a 9 (some (a + 9))) (a + 10) 0 6) a 10 (some (a + 10))) (a + 11) 4 6) a 12 (some (a + 11))) a := ⟨a3, by simp (disch := omega) only [mkc_Tn, mkc_Te, mkc_Ln, mkc_Le, mkc_Rn, mkc_Re, pR_T, pR_L, pR_Rn, pR_Re, pR_Ri, clr_e, clr_n, up_na, mkc_N, mkc_S, pR_N, pR_S, ht], ⟨by simp (disch := omega) only [mkc_Tn, mkc_Te, mkc_Ln, mkc_Le, mkc_Rn, mkc_Re, pR_T, pR_L, pR_Rn, pR_Re, pR_Ri, clr_e, clr_n, up_na, mkc_N, mkc_S, pR_N, pR_S, ht], by simp (disch := omega) only [mkc_Tn, mkc_Te, mkc_Ln, mkc_Le, mkc_Rn, mkc_Re, pR_T, pR_L, pR_Rn, pR_Re, pR_Ri, clr_e, clr_n, up_na, mkc_N, mkc_S, pR_N, pR_S, ht], by simp (disch := omega) only [mkc_Tn, mkc_Te, mkc_Ln, mkc_Le, mkc_Rn, mkc_Re, pR_T, pR_L, pR_Rn, pR_Re, pR_Ri, clr_e, clr_n, up_na, mkc_N, mkc_S, pR_N, pR_S, ht], by simp (disch := omega) only [mkc_Tn, mkc_Te, mkc_Ln, mkc_Le, mkc_Rn, mkc_Re, pR_T, pR_L, pR_Rn, pR_Re, pR_Ri, clr_e, clr_n, up_na, mkc_N, mkc_S, pR_N, pR_S, ht], by simp (disch := omega) only [mkc_Tn, mkc_Te, mkc_Ln, mkc_Le, mkc_Rn, mkc_Re, pR_T, pR_L, pR_Rn, pR_Re, pR_Ri, clr_e, clr_n, up_na, mkc_N, mkc_S, pR_N, pR_S, ht], by simp (disch := omega) only [mkc_Tn, mkc_Te, mkc_Ln, mkc_Le, mkc_Rn, mkc_Re, pR_T, pR_L, pR_Rn, pR_Re, pR_Ri, clr_e, clr_n, up_na, mkc_N, mkc_S, pR_N, pR_S, ht], by simp (disch := omega) only [mkc_Tn, mkc_Te, mkc_Ln, mkc_Le, mkc_Rn, mkc_Re, pR_T, pR_L, pR_Rn, pR_Re, pR_Ri, clr_e, clr_n, up_na, mkc_N, mkc_S, pR_N, pR_S, ht], by simp (disch := omega) only [mkc_Tn, mkc_Te, mkc_Ln, mkc_Le, mkc_Rn, mkc_Re, pR_T, pR_L, pR_Rn, pR_Re, pR_Ri, clr_e, clr_n, up_na, mkc_N, mkc_S, pR_N, pR_S, ht], by simp (disch := omega) only [mkc_Tn, mkc_Te, mkc_Ln, mkc_Le, mkc_Rn, mkc_Re, pR_T, pR_L, pR_Rn, pR_Re, pR_Ri, clr_e, clr_n, up_na, mkc_N, mkc_S, pR_N, pR_S, ht], by simp (disch := omega) only [mkc_Tn, mkc_Te, mkc_Ln, mkc_Le, mkc_Rn, mkc_Re, pR_T, pR_L, pR_Rn, pR_Re, pR_Ri, clr_e, clr_n, up_na, mkc_N, mkc_S, pR_N, pR_S, ht], by simp (disch := omega) only [mkc_Tn, mkc_Te, mkc_Ln, mkc_Le, mkc_Rn, mkc_Re, pR_T, pR_L, pR_Rn, pR_Re, pR_Ri, clr_e, clr_n, up_na, mkc_N, mkc_S, pR_N, pR_S, ht]⟩, ⟨by simp (disch := omega) only [mkc_Tn, mkc_Te, mkc_Ln, mkc_Le, mkc_Rn, mkc_Re, pR_T, pR_L, pR_Rn, pR_Re, pR_Ri, clr_e, clr_n, up_na, mkc_N, mkc_S, pR_N, pR_S, ht], by simp (disch := omega) only [mkc_Tn, mkc_Te, mkc_Ln, mkc_Le, mkc_Rn, mkc_Re, pR_T, pR_L, pR_Rn, pR_Re, pR_Ri, clr_e, clr_n, up_na, mkc_N, mkc_S, pR_N, pR_S, ht], by simp (disch := omega) only [mkc_Tn, mkc_Te, mkc_Ln, mkc_Le, mkc_Rn, mkc_Re, pR_T, pR_L, pR_Rn, pR_Re, pR_Ri, clr_e, clr_n, up_na, mkc_N, mkc_S, pR_N, pR_S, ht], by simp (disch := omega) only [mkc_Tn, mkc_Te, mkc_Ln, mkc_Le, mkc_Rn, mkc_Re, pR_T, pR_L, pR_Rn, pR_Re, pR_Ri, clr_e, clr_n, up_na, mkc_N, mkc_S, pR_N, pR_S, ht], by simp (disch := omega) only [mkc_Tn, mkc_Te, mkc_Ln, mkc_Le, mkc_Rn, mkc_Re, pR_T, pR_L, pR_Rn, pR_Re, pR_Ri, clr_e, clr_n, up_na, mkc_N, mkc_S, pR_N, pR_S, ht], by simp (disch := omega) only [mkc_Tn, mkc_Te, mkc_Ln, mkc_Le, mkc_Rn, mkc_Re, pR_T, pR_L, pR_Rn, pR_Re, pR_Ri, clr_e, clr_n, up_na, mkc_N, mkc_S, pR_N, pR_S, ht], by simp (disch := omega) only [mkc_Tn, mkc_Te, mkc_Ln, mkc_Le, mkc_Rn, mkc_Re, pR_T, pR_L, pR_Rn, pR_Re, pR_Ri, clr_e, clr_n, up_na, mkc_N, mkc_S, pR_N, pR_S, ht], by simp (disch := omega) only [mkc_Tn, mkc_Te, mkc_Ln, mkc_Le, mkc_Rn, mkc_Re, pR_T, pR_L, pR_Rn, pR_Re, pR_Ri, clr_e, clr_n, up_na, mkc_N, mkc_S, pR_N, pR_S, ht], by simp (disch := omega) only [mkc_Tn, mkc_Te, mkc_Ln, mkc_Le, mkc_Rn, mkc_Re, pR_T, pR_L, pR_Rn, pR_Re, pR_Ri, clr_e, clr_n, up_na, mkc_N, mkc_S, pR_N, pR_S, ht], by simp (disch := omega) only [mkc_Tn, mkc_Te, mkc_Ln, mkc_Le, mkc_Rn, mkc_Re, pR_T, pR_L, pR_Rn, pR_Re, pR_Ri, clr_e, clr_n, up_na, mkc_N, mkc_S, pR_N, pR_S, ht], by simp (disch := omega) only [mkc_Tn, mkc_Te, mkc_Ln, mkc_Le, mkc_Rn, mkc_Re, pR_T, pR_L, pR_Rn, pR_Re, pR_Ri, clr_e, clr_n, up_na, mkc_N, mkc_S, pR_N, pR_S, ht]⟩, ⟨by simp (disch := omega) only [mkc_Tn, mkc_Te, mkc_Ln, mkc_Le, mkc_Rn, mkc_Re, pR_T, pR_L, pR_Rn, pR_Re, pR_Ri, clr_e, clr_n, up_na, mkc_N, mkc_S, pR_N, pR_S, ht], by simp (disch := omega) only [mkc_Tn, mkc_Te, mkc_Ln, mkc_Le, mkc_Rn, mkc_Re, pR_T, pR_L, pR_Rn, pR_Re, pR_Ri, clr_e, clr_n, up_na, mkc_N, mkc_S, pR_N, pR_S, ht], by simp (disch := omega) only [mkc_Tn, mkc_Te, mkc_Ln, mkc_Le, mkc_Rn, mkc_Re, pR_T, pR_L, pR_Rn, pR_Re, pR_Ri, clr_e, clr_n, up_na, mkc_N, mkc_S, pR_N, pR_S, ht], by simp (disch := omega) only [mkc_Tn, mkc_Te, mkc_Ln, mkc_Le, mkc_Rn, mkc_Re, pR_T, pR_L, pR_Rn, pR_Re, pR_Ri, clr_e, clr_n, up_na, mkc_N, mkc_S, pR_N, pR_S, ht], by simp (disch := omega) only [mkc_Tn, mkc_Te, mkc_Ln, mkc_Le, mkc_Rn, mkc_Re, pR_T, pR_L, pR_Rn, pR_Re, pR_Ri, clr_e, clr_n, up_na, mkc_N, mkc_S, pR_N, pR_S, ht], by simp (disch := omega) only [mkc_Tn, mkc_Te, mkc_Ln, mkc_Le, mkc_Rn, mkc_Re, pR_T, pR_L, pR_Rn, pR_Re, pR_Ri, clr_e, clr_n, up_na, mkc_N, mkc_S, pR_N, pR_S, ht], by simp (disch := omega) only [mkc_Tn, mkc_Te, mkc_Ln, mkc_Le, mkc_Rn, mkc_Re, pR_T, pR_L, pR_Rn, pR_Re, pR_Ri, clr_e, clr_n, up_na, mkc_N, mkc_S, pR_N, pR_S, ht], by simp (disch := omega) only [mkc_Tn, mkc_Te, mkc_Ln, mkc_Le, mkc_Rn, mkc_Re, pR_T, pR_L, pR_Rn, pR_Re, pR_Ri, clr_e, clr_n, up_na, mkc_N, mkc_S, pR_N, pR_S, ht], by simp (disch := omega) only [mkc_Tn, mkc_Te, mkc_Ln, mkc_Le, mkc_Rn, mkc_Re, pR_T, pR_L, pR_Rn, pR_Re, pR_Ri, clr_e, clr_n, up_na, mkc_N, mkc_S, pR_N, pR_S, ht], by simp (disch := omega) only [mkc_Tn, mkc_Te, mkc_Ln, mkc_Le, mkc_Rn, mkc_Re, pR_T, pR_L, pR_Rn, pR_Re, pR_Ri, clr_e, clr_n, up_na, mkc_N, mkc_S, pR_N, pR_S, ht], by simp (disch := omega) only [mkc_Tn, mkc_Te, mkc_Ln, mkc_Le, mkc_Rn, mkc_Re, pR_T, pR_L, pR_Rn, pR_Re, pR_Ri, clr_e, clr_n, up_na, mkc_N, mkc_S, pR_N, pR_S, ht]⟩⟩
  refine ⟨(pR (mkc (pR (mkc (pR (mkc (pR (mkc (pR (mkc (pR (mkc (pR (mkc (pR (mkc (pR (mkc (pR (mkc (pR (mkc h (a + 1) 0 7) a 1 (some (a + 1))) (a + 2) 0 7) a 2 (some (a + 2))) (a + 3) 0 7) a 3 (some (a + 3))) (a + 4) 0 7) a 4 (some (a + 4))) (a + 5) 0 49) a 5 (some (a + 5))) (a + 6) 0 49) a 6 (some (a + 6))) (a + 7) 0 7) a 7 (some (a + 7))) (a + 8) 0 3) a 8 (some (a + 8))) (a + 9) 0 6) a 9 (some (a + 9))) (a + 10) 0 6) a 10 (some (a + 10))) (a + 11) 4 6) a 12 (some (a + 11))), up (homeI (up (up (clr (up (clr (clr (clr (clr (clr (clr (clr (clr (clr (clr (up I a 0 0) (a + 1)) (a + 2)) (a + 3)) (a + 4)) (a + 5)) (a + 6)) (a + 7)) (a + 8)) (a + 9)) (a + 10)) a 11 0) (a + 11)) a 13 0) a 14 (-1)) a 0) (a + 8) 1 1, (clr (clr (clr (clr (clr (clr (clr (clr (clr (clr (clr J (a + 1)) (a + 2)) (a + 3)) (a + 4)) (a + 5)) (a + 6)) (a + 7)) (a + 8)) (a + 9)) (a + 10)) (a + 11)), ?_, ?_, ?_, ?_, ?_, ⟨sl, ?_⟩, ?_⟩
  · rw [r_La_init, e_La_init, ypI (show hT _ a = 11 by simp (disch := omega) only [ht, pR_T, mkc_Tn]) a3, cAl (show hN h = (a + 1) from hn) (show (7 : Int) = ((7 : Nat) : Int) from rfl) (by omega), cPut (show hT _ a = 11 by simp (disch := omega) only [ht, pR_T, mkc_Tn]) a3, cAl (show hN (pR (mkc h (a + 1) 0 7) a 1 (some (a + 1))) = (a + 2) from rfl) (show (7 : Int) = ((7 : Nat) : Int) from rfl) (by omega), cPut (show hT _ a = 11 by simp (disch := omega) only [ht, pR_T, mkc_Tn]) a3, cAl (show hN (pR (mkc (pR (mkc h (a + 1) 0 7) a 1 (some (a + 1))) (a + 2) 0 7) a 2 (some (a + 2))) = (a + 3) from rfl) (show (7 : Int) = ((7 : Nat) : Int) from rfl) (by omega), cPut (show hT _ a = 11 by simp (disch := omega) only [ht, pR_T, mkc_Tn]) a3, cAl (show hN (pR (mkc (pR (mkc (pR (mkc h (a + 1) 0 7) a 1 (some (a + 1))) (a + 2) 0 7) a 2 (some (a + 2))) (a + 3) 0 7) a 3 (some (a + 3))) = (a + 4) from rfl) (show (7 : Int) = ((7 : Nat) : Int) from rfl) (by omega), cPut (show hT _ a = 11 by simp (disch := omega) only [ht, pR_T, mkc_Tn]) a3, cAl (show hN (pR (mkc (pR (mkc (pR (mkc (pR (mkc h (a + 1) 0 7) a 1 (some (a + 1))) (a + 2) 0 7) a 2 (some (a + 2))) (a + 3) 0 7) a 3 (some (a + 3))) (a + 4) 0 7) a 4 (some (a + 4))) = (a + 5) from rfl) (show (49 : Int) = ((49 : Nat) : Int) from rfl) (by omega), cPut (show hT _ a = 11 by simp (disch := omega) only [ht, pR_T, mkc_Tn]) a3, cAl (show hN (pR (mkc (pR (mkc (pR (mkc (pR (mkc (pR (mkc h (a + 1) 0 7) a 1 (some (a + 1))) (a + 2) 0 7) a 2 (some (a + 2))) (a + 3) 0 7) a 3 (some (a + 3))) (a + 4) 0 7) a 4 (some (a + 4))) (a + 5) 0 49) a 5 (some (a + 5))) = (a + 6) from rfl) (show (49 : Int) = ((49 : Nat) : Int) from rfl) (by omega), cPut (show hT _ a = 11 by simp (disch := omega) only [ht, pR_T, mkc_Tn]) a3, cAl (show hN (pR (mkc (pR (mkc (pR (mkc (pR (mkc (pR (mkc (pR (mkc h (a + 1) 0 7) a 1 (some (a + 1))) (a + 2) 0 7) a 2 (some (a + 2))) (a + 3) 0 7) a 3 (some (a + 3))) (a + 4) 0 7) a 4 (some (a + 4))) (a + 5) 0 49) a 5 (some (a + 5))) (a + 6) 0 49) a 6 (some (a + 6))) = (a + 7) from rfl) (show (7 : Int) = ((7 : Nat) : Int) from rfl) (by omega), cPut (show hT _ a = 11 by simp (disch := omega) only [ht, pR_T, mkc_Tn]) a3, yle (show hT _ 1 < 6 by simp (disch := omega) only [pR_T, mkc_Tn, q1]; decide) (show hL _ 1 = 3 by simp (disch := omega) only [pR_L, mkc_Ln, q2]) (by omega), cAl (show hN (pR (mkc (pR (mkc (pR (mkc (pR (mkc (pR (mkc (pR (mkc (pR (mkc h (a + 1) 0 7) a 1 (some (a + 1))) (a + 2) 0 7) a 2 (some (a + 2))) (a + 3) 0 7) a 3 (some (a + 3))) (a + 4) 0 7) a 4 (some (a + 4))) (a + 5) 0 49) a 5 (some (a + 5))) (a + 6) 0 49) a 6 (some (a + 6))) (a + 7) 0 7) a 7 (some (a + 7))) = (a + 8) from rfl) (show ((3 : Nat) : Int) = ((3 : Nat) : Int) from rfl) (by omega), cPut (show hT _ a = 11 by simp (disch := omega) only [ht, pR_T, mkc_Tn]) a3, cAl (show hN (pR (mkc (pR (mkc (pR (mkc (pR (mkc (pR (mkc (pR (mkc (pR (mkc (pR (mkc h (a + 1) 0 7) a 1 (some (a + 1))) (a + 2) 0 7) a 2 (some (a + 2))) (a + 3) 0 7) a 3 (some (a + 3))) (a + 4) 0 7) a 4 (some (a + 4))) (a + 5) 0 49) a 5 (some (a + 5))) (a + 6) 0 49) a 6 (some (a + 6))) (a + 7) 0 7) a 7 (some (a + 7))) (a + 8) 0 3) a 8 (some (a + 8))) = (a + 9) from rfl) (show (6 : Int) = ((6 : Nat) : Int) from rfl) (by omega), cPut (show hT _ a = 11 by simp (disch := omega) only [ht, pR_T, mkc_Tn]) a3, cAl (show hN (pR (mkc (pR (mkc (pR (mkc (pR (mkc (pR (mkc (pR (mkc (pR (mkc (pR (mkc (pR (mkc h (a + 1) 0 7) a 1 (some (a + 1))) (a + 2) 0 7) a 2 (some (a + 2))) (a + 3) 0 7) a 3 (some (a + 3))) (a + 4) 0 7) a 4 (some (a + 4))) (a + 5) 0 49) a 5 (some (a + 5))) (a + 6) 0 49) a 6 (some (a + 6))) (a + 7) 0 7) a 7 (some (a + 7))) (a + 8) 0 3) a 8 (some (a + 8))) (a + 9) 0 6) a 9 (some (a + 9))) = (a + 10) from rfl) (show (6 : Int) = ((6 : Nat) : Int) from rfl) (by omega), cPut (show hT _ a = 11 by simp (disch := omega) only [ht, pR_T, mkc_Tn]) a3, ypI (show hT _ a = 11 by simp (disch := omega) only [ht, pR_T, mkc_Tn]) a3, cAl (show hN (pR (mkc (pR (mkc (pR (mkc (pR (mkc (pR (mkc (pR (mkc (pR (mkc (pR (mkc (pR (mkc (pR (mkc h (a + 1) 0 7) a 1 (some (a + 1))) (a + 2) 0 7) a 2 (some (a + 2))) (a + 3) 0 7) a 3 (some (a + 3))) (a + 4) 0 7) a 4 (some (a + 4))) (a + 5) 0 49) a 5 (some (a + 5))) (a + 6) 0 49) a 6 (some (a + 6))) (a + 7) 0 7) a 7 (some (a + 7))) (a + 8) 0 3) a 8 (some (a + 8))) (a + 9) 0 6) a 9 (some (a + 9))) (a + 10) 0 6) a 10 (some (a + 10))) = (a + 11) from rfl) (show (6 : Int) = ((6 : Nat) : Int) from rfl) (by omega), cPut (show hT _ a = 11 by simp (disch := omega) only [ht, pR_T, mkc_Tn]) a3, ypI (show hT _ a = 11 by simp (disch := omega) only [ht, pR_T, mkc_Tn]) a3, ypI (show hT _ a = 11 by simp (disch := omega) only [ht, pR_T, mkc_Tn]) a3]
    exact c_La_lp sl 7 0 999991 _ rfl
  · intro b hb
    refine ⟨?_, ?_, ?_, ?_, ?_⟩ <;> simp (disch := omega) only [homeI_n, mkc_Tn, mkc_Te, mkc_Ln, mkc_Le, mkc_Rn, mkc_Re, pR_T, pR_L, pR_Rn, pR_Re, pR_Ri, clr_e, clr_n, up_na, mkc_N, mkc_S, pR_N, pR_S]
  · refine ⟨?_, ?_, ?_, ?_⟩
    · simp (disch := omega) only [mkc_Tn, mkc_Te, mkc_Ln, mkc_Le, mkc_Rn, mkc_Re, pR_T, pR_L, pR_Rn, pR_Re, pR_Ri, clr_e, clr_n, up_na, mkc_N, mkc_S, pR_N, pR_S, ht]
    · simp (disch := omega) only [mkc_Tn, mkc_Te, mkc_Ln, mkc_Le, mkc_Rn, mkc_Re, pR_T, pR_L, pR_Rn, pR_Re, pR_Ri, clr_e, clr_n, up_na, mkc_N, mkc_S, pR_N, pR_S, ht]
    · funext i
      simp (disch := omega) only [homeI_n, mkc_Tn, mkc_Te, mkc_Ln, mkc_Le, mkc_Rn, mkc_Re, pR_T, pR_L, pR_Rn, pR_Re, pR_Ri, clr_e, clr_n, up_na, mkc_N, mkc_S, pR_N, pR_S, up_at, hz]
      try (repeat' split) <;> first | rfl | omega
    · simp (disch := omega) only [mkc_Tn, mkc_Te, mkc_Ln, mkc_Le, mkc_Rn, mkc_Re, pR_T, pR_L, pR_Rn, pR_Re, pR_Ri, clr_e, clr_n, up_na, mkc_N, mkc_S, pR_N, pR_S, ht]
  · rfl
  · simp only [mkc_S, pR_S]
  · simp (disch := omega) only [mkc_Tn, mkc_Te, mkc_Ln, mkc_Le, mkc_Rn, mkc_Re, pR_T, pR_L, pR_Rn, pR_Re, pR_Ri, clr_e, clr_n, up_na, mkc_N, mkc_S, pR_N, pR_S, ht]
  · intro b b1 b2
    rcases (show b = a + 1 ∨ b = a + 2 ∨ b = a + 3 ∨ b = a + 4 ∨ b = a + 5 ∨ b = a + 6 ∨ b = a + 7 ∨ b = a + 8 ∨ b = a + 9 ∨ b = a + 10 ∨ b = a + 11 by omega) with z | z | z | z | z | z | z | z | z | z | z
    · subst z
      constructor
      · rw [Nat.add_sub_cancel_left]
        funext i
        simp (disch := omega) only [up_na, homeI_e, mkc_Tn, mkc_Te, mkc_Ln, mkc_Le, mkc_Rn, mkc_Re, pR_T, pR_L, pR_Rn, pR_Re, pR_Ri, clr_e, clr_n, mkc_N, mkc_S, pR_N, pR_S]
        simp [landR]
      · simp (disch := omega) only [mkc_Tn, mkc_Te, mkc_Ln, mkc_Le, mkc_Rn, mkc_Re, pR_T, pR_L, pR_Rn, pR_Re, pR_Ri, clr_e, clr_n, up_na, mkc_N, mkc_S, pR_N, pR_S, ht]
    · subst z
      constructor
      · rw [Nat.add_sub_cancel_left]
        funext i
        simp (disch := omega) only [up_na, homeI_e, mkc_Tn, mkc_Te, mkc_Ln, mkc_Le, mkc_Rn, mkc_Re, pR_T, pR_L, pR_Rn, pR_Re, pR_Ri, clr_e, clr_n, mkc_N, mkc_S, pR_N, pR_S]
        simp [landR]
      · simp (disch := omega) only [mkc_Tn, mkc_Te, mkc_Ln, mkc_Le, mkc_Rn, mkc_Re, pR_T, pR_L, pR_Rn, pR_Re, pR_Ri, clr_e, clr_n, up_na, mkc_N, mkc_S, pR_N, pR_S, ht]
    · subst z
      constructor
      · rw [Nat.add_sub_cancel_left]
        funext i
        simp (disch := omega) only [homeI_n, mkc_Tn, mkc_Te, mkc_Ln, mkc_Le, mkc_Rn, mkc_Re, pR_T, pR_L, pR_Rn, pR_Re, pR_Ri, clr_e, clr_n, up_na, mkc_N, mkc_S, pR_N, pR_S, up_at]
        simp [landR]
      · simp (disch := omega) only [mkc_Tn, mkc_Te, mkc_Ln, mkc_Le, mkc_Rn, mkc_Re, pR_T, pR_L, pR_Rn, pR_Re, pR_Ri, clr_e, clr_n, up_na, mkc_N, mkc_S, pR_N, pR_S, ht]
    · subst z
      constructor
      · rw [Nat.add_sub_cancel_left]
        funext i
        simp (disch := omega) only [homeI_n, mkc_Tn, mkc_Te, mkc_Ln, mkc_Le, mkc_Rn, mkc_Re, pR_T, pR_L, pR_Rn, pR_Re, pR_Ri, clr_e, clr_n, up_na, mkc_N, mkc_S, pR_N, pR_S, up_at]
        simp [landR]
      · simp (disch := omega) only [mkc_Tn, mkc_Te, mkc_Ln, mkc_Le, mkc_Rn, mkc_Re, pR_T, pR_L, pR_Rn, pR_Re, pR_Ri, clr_e, clr_n, up_na, mkc_N, mkc_S, pR_N, pR_S, ht]
    · subst z
      constructor
      · rw [Nat.add_sub_cancel_left]
        funext i
        simp (disch := omega) only [homeI_n, mkc_Tn, mkc_Te, mkc_Ln, mkc_Le, mkc_Rn, mkc_Re, pR_T, pR_L, pR_Rn, pR_Re, pR_Ri, clr_e, clr_n, up_na, mkc_N, mkc_S, pR_N, pR_S, up_at]
        simp [landR]
      · simp (disch := omega) only [mkc_Tn, mkc_Te, mkc_Ln, mkc_Le, mkc_Rn, mkc_Re, pR_T, pR_L, pR_Rn, pR_Re, pR_Ri, clr_e, clr_n, up_na, mkc_N, mkc_S, pR_N, pR_S, ht]
    · subst z
      constructor
      · rw [Nat.add_sub_cancel_left]
        funext i
        simp (disch := omega) only [homeI_n, mkc_Tn, mkc_Te, mkc_Ln, mkc_Le, mkc_Rn, mkc_Re, pR_T, pR_L, pR_Rn, pR_Re, pR_Ri, clr_e, clr_n, up_na, mkc_N, mkc_S, pR_N, pR_S, up_at]
        simp [landR]
      · simp (disch := omega) only [mkc_Tn, mkc_Te, mkc_Ln, mkc_Le, mkc_Rn, mkc_Re, pR_T, pR_L, pR_Rn, pR_Re, pR_Ri, clr_e, clr_n, up_na, mkc_N, mkc_S, pR_N, pR_S, ht]
    · subst z
      constructor
      · rw [Nat.add_sub_cancel_left]
        funext i
        simp (disch := omega) only [homeI_n, mkc_Tn, mkc_Te, mkc_Ln, mkc_Le, mkc_Rn, mkc_Re, pR_T, pR_L, pR_Rn, pR_Re, pR_Ri, clr_e, clr_n, up_na, mkc_N, mkc_S, pR_N, pR_S, up_at]
        simp [landR]
      · simp (disch := omega) only [mkc_Tn, mkc_Te, mkc_Ln, mkc_Le, mkc_Rn, mkc_Re, pR_T, pR_L, pR_Rn, pR_Re, pR_Ri, clr_e, clr_n, up_na, mkc_N, mkc_S, pR_N, pR_S, ht]
    · subst z
      constructor
      · rw [Nat.add_sub_cancel_left]
        funext i
        simp (disch := omega) only [homeI_n, mkc_Tn, mkc_Te, mkc_Ln, mkc_Le, mkc_Rn, mkc_Re, pR_T, pR_L, pR_Rn, pR_Re, pR_Ri, clr_e, clr_n, up_na, mkc_N, mkc_S, pR_N, pR_S, up_at]
        simp [landR]
      · simp (disch := omega) only [mkc_Tn, mkc_Te, mkc_Ln, mkc_Le, mkc_Rn, mkc_Re, pR_T, pR_L, pR_Rn, pR_Re, pR_Ri, clr_e, clr_n, up_na, mkc_N, mkc_S, pR_N, pR_S, ht]
    · subst z
      constructor
      · rw [Nat.add_sub_cancel_left]
        funext i
        simp (disch := omega) only [homeI_n, mkc_Tn, mkc_Te, mkc_Ln, mkc_Le, mkc_Rn, mkc_Re, pR_T, pR_L, pR_Rn, pR_Re, pR_Ri, clr_e, clr_n, up_na, mkc_N, mkc_S, pR_N, pR_S, up_at]
        simp [landR]
      · simp (disch := omega) only [mkc_Tn, mkc_Te, mkc_Ln, mkc_Le, mkc_Rn, mkc_Re, pR_T, pR_L, pR_Rn, pR_Re, pR_Ri, clr_e, clr_n, up_na, mkc_N, mkc_S, pR_N, pR_S, ht]
    · subst z
      constructor
      · rw [Nat.add_sub_cancel_left]
        funext i
        simp (disch := omega) only [homeI_n, mkc_Tn, mkc_Te, mkc_Ln, mkc_Le, mkc_Rn, mkc_Re, pR_T, pR_L, pR_Rn, pR_Re, pR_Ri, clr_e, clr_n, up_na, mkc_N, mkc_S, pR_N, pR_S, up_at]
        simp [landR]
      · simp (disch := omega) only [mkc_Tn, mkc_Te, mkc_Ln, mkc_Le, mkc_Rn, mkc_Re, pR_T, pR_L, pR_Rn, pR_Re, pR_Ri, clr_e, clr_n, up_na, mkc_N, mkc_S, pR_N, pR_S, ht]
    · subst z
      constructor
      · rw [Nat.add_sub_cancel_left]
        funext i
        simp (disch := omega) only [homeI_n, mkc_Tn, mkc_Te, mkc_Ln, mkc_Le, mkc_Rn, mkc_Re, pR_T, pR_L, pR_Rn, pR_Re, pR_Ri, clr_e, clr_n, up_na, mkc_N, mkc_S, pR_N, pR_S, up_at]
        simp [landR]
      · simp (disch := omega) only [mkc_Tn, mkc_Te, mkc_Ln, mkc_Le, mkc_Rn, mkc_Re, pR_T, pR_L, pR_Rn, pR_Re, pR_Ri, clr_e, clr_n, up_na, mkc_N, mkc_S, pR_N, pR_S, ht]
end P35c
