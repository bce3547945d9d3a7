/-! A read TEXT means its clauses; its copy without room to spare (by program, wip/whole/gen81.py) -/
/-- what a place tells -/
def valO (x : Option Mng) (ws : Nat → Int) : Int := match x with
  | none => 1
  | some g => g ws
section P81a
variable {I I' : Nat → Nat → Int} {nw a m x : Nat} {ws : Nat → Int}
theorem bot_1 : ∀ v : Int, v ≠ BRK → bot [v] = v := fun _ _ => rfl
theorem pl_val {P : Option Mng} (h : plOk nw I a m P) (e6 : I' x 6 = (m : Int)) (e5 : I' (x + 5) a = I 49 a) (e7 : I' (x + 6) a = I 50 a) (e1 : ∀ i, i < m → I' (x + 1) i = I 45 i ∧ I' (x + 2) i = I 46 i) (hw : wsOk ws nw) : plV I' x ws nw a = valO P ws := by
  unfold plV
  rw [e6, e5, e7]
  cases P with
  | none =>
    rw [h.1, h.2, show (imin 0 (m : Int)).toNat = 0 by unfold imin; split <;> omega]
    rfl
  | some g =>
    obtain ⟨f, t, z, a1, a2, a3, a4, a5⟩ := h
    rw [a1, a2, show (imin (t : Int) (m : Int)).toNat = t by unfold imin; split <;> omega, Int.toNat_natCast]
    exact sem_all (a5.fr fun i i1 i2 => e1 i (by omega)) (by omega) hw bot_1
theorem pl_in {P : Option Mng} (h : plOk nw I a m P) (hm : m ≤ 400) : (0 ≤ I 49 a ∧ I 49 a ≤ 400) ∧ (0 ≤ I 50 a ∧ I 50 a ≤ 400) := by
  cases P with
  | none =>
    rw [h.1, h.2]
    omega
  | some g =>
    obtain ⟨f, t, z, a1, a2, a3, a4, a5⟩ := h
    have := a5.1
    rw [a1, a2]
    omega
end P81a
section P81
variable {d : Nat} {h : IH} {I J : Nat → Nat → Int}
theorem cpy_at {I : Nat → Nat → Int} {a i b j n k : Nat} (h : j ≤ k ∧ k < j + n) : cpy I a i b j n b k = I a (i + (k - j)) := if_pos ⟨rfl, h⟩
theorem cpy_of {I : Nat → Nat → Int} {a i b j n k : Nat} (h : ¬ (j ≤ k ∧ k < j + n)) : cpy I a i b j n b k = I b k := if_neg fun z => h z.2
theorem s_trimmed (s : ShT h) {N m c : Nat} (hN1 : hN h = N) (hN2 : 118 ≤ N) (e6 : I 44 6 = (m : Int)) (e7 : I 44 7 = (c : Int)) (hm : m ≤ 400) (hc : c ≤ 12) : ∃ (h' : IH) (I' J' : Nat → Nat → Int), rn (d + 2) 87 [iR (some 44)] (st h I J) = some (oR (some N), st h' I' J') ∧ (∀ b, b < N → hT h' b = hT h b ∧ hL h' b = hL h b ∧ hR h' b = hR h b ∧ I' b = I b ∧ J' b = J b) ∧ hN h' = N + 7 ∧ hS h' = hS h + (8 + (2 * m + 10 * c)) ∧ TxRw h' N m c ∧ (I' N 6 = (m : Int) ∧ I' N 7 = (c : Int)) ∧ (∀ i, i < m → I' (N + 1) i = I 45 i ∧ I' (N + 2) i = I 46 i) ∧ (∀ i, i < c → I' (N + 3) i = I 47 i ∧ I' (N + 4) i = I 48 i) ∧ (∀ i, i < 4 * c → I' (N + 5) i = I 49 i ∧ I' (N + 6) i = I 50 i) := by
  obtain ⟨h1, I1, J1, a1, a2, ⟨b1, b2, b3, b4⟩, a3, a4, a5, a6⟩ := c_Tx (d := d) (h := mkc h N 19 8) (I := clr I N) (J := clr J N) (a := N) (n := m) (m := c) (x := (m : Int)) (y := (c : Int)) rfl rfl (by omega) (by omega) (by omega) (mkc_Te _) (mkc_N _) clr_e
  have q : ∀ b, b < N → hT h1 b = hT h b ∧ hL h1 b = hL h b ∧ hR h1 b = hR h b ∧ I1 b = I b ∧ J1 b = J b := by
    intro b hb
    obtain ⟨x1, x2, x3, x4, x5⟩ := a2 b hb
    rw [mkc_Tn (by omega)] at x1
    rw [mkc_Ln (by omega)] at x2
    rw [mkc_Rn (by omega)] at x3
    rw [clr_n (by omega)] at x4 x5
    exact ⟨x1, x2, x3, x4, x5⟩
  have aT : hT h1 44 = 19 := (q 44 (by omega)).1.trans (aT_44 s)
  have aR : ∀ i o, hR h 44 i = o → hR h1 44 i = o := fun i o e => by rw [(q 44 (by omega)).2.2.1]; exact e
  have tq : ∀ b, b < N → hT h1 b = hT h b := fun b hb => (q b hb).1
  have lq : ∀ b, b < N → hL h1 b = hL h b := fun b hb => (q b hb).2.1
  obtain ⟨tx, ⟨t1, l1⟩, ⟨t2, l2⟩, ⟨t3, l3⟩, ⟨t4, l4⟩, ⟨t5, l5⟩, ⟨t6, l6⟩⟩ := a5
  -- all rows copied
  have e : ∀ b, b < N → up (up I1 N 6 (m : Int)) N 7 (c : Int) b = I b := fun b hb => by rw [up_na (by omega), up_na (by omega)]; exact (q b hb).2.2.2.1
  refine ⟨h1, cpy (cpy (cpy (cpy (cpy (cpy (up (up I1 N 6 (m : Int)) N 7 (c : Int)) 45 0 (N + 1) 0 m) 46 0 (N + 2) 0 m) 47 0 (N + 3) 0 c) 48 0 (N + 4) 0 c) 49 0 (N + 5) 0 (4 * c)) 50 0 (N + 6) 0 (4 * c), J1, ?_, fun b hb => ?_, a3, by rw [a4, mkc_S]; omega, ⟨tx, ⟨t1, l1⟩, ⟨t2, l2⟩, ⟨t3, l3⟩, ⟨t4, l4⟩, ⟨t5, l5⟩, ⟨t6, l6⟩⟩, ?_, ?_, ?_, ?_⟩
  · have s6 : ∀ X : Nat → Nat → Int, X 44 = I 44 → X 44 6 = (m : Int) ∧ X 44 7 = (c : Int) := fun X hX => by rw [hX]; exact ⟨e6, e7⟩
    have k1 : clr I N 44 = I 44 := clr_n (by omega)
    have k2 : I1 44 = I 44 := (q 44 (by omega)).2.2.2.1
    have w4 : wr ((c : Int) * 4) = ((4 * c : Nat) : Int) := by rw [wr_id (by omega) (by omega)]; omega
    rw [r_Tx_trimmed, e_Tx_trimmed, cOb (t := 19) (m := 8) hN1 rfl rfl, ygI (show hT (mkc h N 19 8) 44 = 19 by rw [mkc_Tn (by omega)]; exact aT_44 s), (s6 _ k1).1, ygI (show hT (mkc h N 19 8) 44 = 19 by rw [mkc_Tn (by omega)]; exact aT_44 s), (s6 _ k1).2, a1, kV_o, ygI aT, (s6 _ k2).1, ypI (Tx_t tx) (Tx_3 tx), ygI aT, (s6 _ (show up I1 N 6 (m : Int) 44 = I 44 by rw [up_na (by omega)]; exact k2)).2, ypI (Tx_t tx) (Tx_3 tx)]
    rw [ygR aT (aR _ _ (aR_44_0 s)), ygR (Tx_t tx) (Tx_r0 tx), ygI aT, (s6 _ (e 44 (by omega))).1, ycp0 (by rw [tq 45 (by omega)]; exact aT_45 s) t1 (by omega) (by omega) (by omega) (by omega) (by omega) (by omega) (by rw [lq 45 (by omega), aL_45 s]; omega) (by rw [l1]; omega), show (0 : Int).toNat = 0 from rfl, show (m : Int).toNat = m from Int.toNat_natCast m]
    rw [ygR aT (aR _ _ (aR_44_1 s)), ygR (Tx_t tx) (Tx_r1 tx), ygI aT, (s6 _ (show cpy _ 45 0 (N + 1) 0 m 44 = I 44 by rw [cpy_na (by omega)]; exact e 44 (by omega))).1, ycp0 (by rw [tq 46 (by omega)]; exact aT_46 s) t2 (by omega) (by omega) (by omega) (by omega) (by omega) (by omega) (by rw [lq 46 (by omega), aL_46 s]; omega) (by rw [l2]; omega), show (0 : Int).toNat = 0 from rfl, show (m : Int).toNat = m from Int.toNat_natCast m]
    rw [ygR aT (aR _ _ (aR_44_2 s)), ygR (Tx_t tx) (Tx_r2 tx), ygI aT, (s6 _ (show cpy _ 46 0 (N + 2) 0 m 44 = I 44 by rw [cpy_na (by omega), cpy_na (by omega)]; exact e 44 (by omega))).2, ycp0 (by rw [tq 47 (by omega)]; exact aT_47 s) t3 (by omega) (by omega) (by omega) (by omega) (by omega) (by omega) (by rw [lq 47 (by omega), aL_47 s]; omega) (by rw [l3]; omega), show (0 : Int).toNat = 0 from rfl, show (c : Int).toNat = c from Int.toNat_natCast c]
    rw [ygR aT (aR _ _ (aR_44_3 s)), ygR (Tx_t tx) (Tx_r3 tx), ygI aT, (s6 _ (show cpy _ 47 0 (N + 3) 0 c 44 = I 44 by rw [cpy_na (by omega), cpy_na (by omega), cpy_na (by omega)]; exact e 44 (by omega))).2, ycp0 (by rw [tq 48 (by omega)]; exact aT_48 s) t4 (by omega) (by omega) (by omega) (by omega) (by omega) (by omega) (by rw [lq 48 (by omega), aL_48 s]; omega) (by rw [l4]; omega), show (0 : Int).toNat = 0 from rfl, show (c : Int).toNat = c from Int.toNat_natCast c]
    rw [ygR aT (aR _ _ (aR_44_4 s)), ygR (Tx_t tx) (Tx_r4 tx), ygI aT, (s6 _ (show cpy _ 48 0 (N + 4) 0 c 44 = I 44 by rw [cpy_na (by omega), cpy_na (by omega), cpy_na (by omega), cpy_na (by omega)]; exact e 44 (by omega))).2, w4, ycp0 (by rw [tq 49 (by omega)]; exact aT_49 s) t5 (by omega) (by omega) (by omega) (by omega) (by omega) (by omega) (by rw [lq 49 (by omega), aL_49 s]; omega) (by rw [l5]; omega), show (0 : Int).toNat = 0 from rfl, show ((4 * c : Nat) : Int).toNat = 4 * c from Int.toNat_natCast _]
    show lp (d + 1) 87 (999998 + 1) 119 _ _ _ = _
    rw [e_Tx_trimmed_119, ygR aT (aR _ _ (aR_44_5 s)), ygR (Tx_t tx) (Tx_r5 tx), ygI aT, (s6 _ (show cpy _ 49 0 (N + 5) 0 (4 * c) 44 = I 44 by rw [cpy_na (by omega), cpy_na (by omega), cpy_na (by omega), cpy_na (by omega), cpy_na (by omega)]; exact e 44 (by omega))).2, w4, ycp0 (by rw [tq 50 (by omega)]; exact aT_50 s) t6 (by omega) (by omega) (by omega) (by omega) (by omega) (by omega) (by rw [lq 50 (by omega), aL_50 s]; omega) (by rw [l6]; omega), show (0 : Int).toNat = 0 from rfl, show ((4 * c : Nat) : Int).toNat = 4 * c from Int.toNat_natCast _]
  · obtain ⟨x1, x2, x3, x4, x5⟩ := q b hb
    refine ⟨x1, x2, x3, ?_, x5⟩
    rw [cpy_na (by omega), cpy_na (by omega), cpy_na (by omega), cpy_na (by omega), cpy_na (by omega), cpy_na (by omega)]
    exact e b hb
  · rw [cpy_na (by omega), cpy_na (by omega), cpy_na (by omega), cpy_na (by omega), cpy_na (by omega), cpy_na (by omega)]
    exact ⟨by rw [up_ni (by omega), up_eq], by rw [up_eq]⟩
  · intro i hi
    constructor
    · rw [cpy_na (by omega), cpy_na (by omega), cpy_na (by omega), cpy_na (by omega), cpy_na (by omega), cpy_at (by omega), e 45 (by omega)]
      congr 1
      omega
    · rw [cpy_na (by omega), cpy_na (by omega), cpy_na (by omega), cpy_na (by omega), cpy_at (by omega), cpy_na (by omega), e 46 (by omega)]
      congr 1
      omega
  · intro i hi
    constructor
    · rw [cpy_na (by omega), cpy_na (by omega), cpy_na (by omega), cpy_at (by omega), cpy_na (by omega), cpy_na (by omega), e 47 (by omega)]
      congr 1
      omega
    · rw [cpy_na (by omega), cpy_na (by omega), cpy_at (by omega), cpy_na (by omega), cpy_na (by omega), cpy_na (by omega), e 48 (by omega)]
      congr 1
      omega
  · intro i hi
    constructor
    · rw [cpy_na (by omega), cpy_at (by omega), cpy_na (by omega), cpy_na (by omega), cpy_na (by omega), cpy_na (by omega), e 49 (by omega)]
      congr 1
      omega
    · rw [cpy_at (by omega), cpy_na (by omega), cpy_na (by omega), cpy_na (by omega), cpy_na (by omega), cpy_na (by omega), e 50 (by omega)]
      congr 1
      omega
/-- the copy of a read law means its clauses -/
theorem trim_ok {h' : IH} {I' : Nat → Nat → Int} {N m c : Nat} {CL : Nat → Cls} (g : StOk I) (t : TxRw h' N m c) (hm : m ≤ 400) (hc : c ≤ 12) (hS : TxS 9 I c m CL) (e67 : I' N 6 = (m : Int) ∧ I' N 7 = (c : Int)) (e12 : ∀ i, i < m → I' (N + 1) i = I 45 i ∧ I' (N + 2) i = I 46 i) (e34 : ∀ i, i < c → I' (N + 3) i = I 47 i ∧ I' (N + 4) i = I 48 i) (e56 : ∀ i, i < 4 * c → I' (N + 5) i = I 49 i ∧ I' (N + 6) i = I 50 i) : TxM h' I' N c CL := by
  obtain ⟨tx, ⟨t1, l1⟩, ⟨t2, l2⟩, ⟨t3, l3⟩, ⟨t4, l4⟩, ⟨t5, l5⟩, ⟨t6, l6⟩⟩ := t
  refine ⟨⟨m, c, m, tx, ⟨t1, t2, t3, t4, t5, t6⟩, ⟨l1, l2, l3, l4, l5, l6⟩, ⟨e67.1, e67.2, Nat.le_refl _, by omega, Nat.le_refl _, hc⟩, fun p hp => ?_, fun i hi => ?_⟩, fun i hi => ⟨?_, fun q hq ws hw => ?_⟩⟩
  · have := pl_in ((hS.1 (p / 4) (by omega)).2.2 (p % 4) (by omega)) hm
    rw [show 4 * (p / 4) + p % 4 = p by omega] at this
    rw [(e56 p hp).1, (e56 p hp).2]
    omega
  · rw [(e12 i hi).1, (e12 i hi).2]
    exact g i
  · rw [(e34 i hi).1]
    exact (hS.1 i hi).1
  · exact pl_val ((hS.1 i hi).2.2 q hq) e67.1 (e56 (4 * i + q) (by omega)).1 (e56 (4 * i + q) (by omega)).2 e12 hw
end P81
