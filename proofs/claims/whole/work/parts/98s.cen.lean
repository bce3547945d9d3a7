/-! centuries: the reference's years, the call (by program, wip/whole/gen98s.py) -/
def AcFr (I' I : Nat → Nat → Int) : Prop := (∀ b, b ≠ 88 → b ≠ 90 → b ≠ 100 → b ≠ 103 → I' b = I b) ∧ ∀ i, i ≠ 22 → i ≠ 23 → i ≠ 24 → i ≠ 25 → i ≠ 56 → I' 88 i = I 88 i
section P98s
variable {h h' : IH} {I I' J A B C : Nat → Nat → Int} {a d n k : Nat} {K K' : Nat → Int} {LW : Nat → Nat × (Nat → Cls)} {L : LwV} {xs : Nat → Int32} {Ln : Nat}
theorem AcFr.rf (I : Nat → Nat → Int) : AcFr I I := ⟨fun _ _ _ _ _ => rfl, fun _ _ _ _ _ _ => rfl⟩
theorem AcFr.tr (h1 : AcFr A B) (h2 : AcFr B C) : AcFr A C := ⟨fun b q1 q2 q3 q4 => (h1.1 b q1 q2 q3 q4).trans (h2.1 b q1 q2 q3 q4), fun i q1 q2 q3 q4 q5 => (h1.2 i q1 q2 q3 q4 q5).trans (h2.2 i q1 q2 q3 q4 q5)⟩
theorem AsFr.ac (f : AsFr A B) : AcFr A B := ⟨fun b q1 _ q3 _ => f.1 b q1 q3, fun i q1 q2 q3 q4 _ => f.2 i q1 q2 q3 q4⟩
theorem AcFr.u56 (I : Nat → Nat → Int) (x : Int) : AcFr (up I 88 56 x) I := ⟨fun b q1 _ _ _ => up_na q1, fun i _ _ _ _ q => up_ni q⟩
theorem swV_iff (k : KOk K) {a b : Int} (ha : 0 ≤ a ∧ a < K 183) (hb : 0 ≤ b ∧ b < K 183) : 0 ≤ swapV K L a b ↔ a ≠ b ∧ canSw K L a b := by
  have k1 := k.1
  have k2 := (k.2.1.1 b.toNat (by omega)).1
  unfold swapV
  by_cases c1 : a = b
  · rw [if_pos c1]
    exact ⟨fun z => by omega, fun z => absurd c1 z.1⟩
  rw [if_neg c1, if_pos ⟨ha, hb⟩]
  by_cases c2 : canSw K L a b
  · rw [if_pos c2]
    exact ⟨fun _ => ⟨c1, c2⟩, fun _ => k2⟩
  · rw [if_neg c2]
    exact ⟨fun z => by omega, fun z => absurd z.2 c2⟩
theorem rdV_iff (k : KOk K) {a b c : Int} (ha : 0 ≤ a ∧ a < K 183) (hb : 0 ≤ b ∧ b < K 183) (hc : 0 ≤ c ∧ c < K 183) : 0 ≤ roundV K L a b c ↔ (a ≠ b ∧ b ≠ c ∧ a ≠ c) ∧ canRd K L a b c := by
  have k1 := k.1
  have k2 := (k.2.1.1 c.toNat (by omega)).1
  unfold roundV
  by_cases c1 : a = b ∨ b = c ∨ a = c
  · rw [if_pos c1]
    exact ⟨fun z => by omega, fun z => by omega⟩
  rw [if_neg c1, if_pos ⟨ha, hb, hc⟩]
  by_cases c2 : canRd K L a b c
  · rw [if_pos c2]
    exact ⟨fun _ => ⟨by omega, c2⟩, fun _ => k2⟩
  · rw [if_neg c2]
    exact ⟨fun z => by omega, fun z => absurd z.2 c2⟩
theorem m_draws (m : ShM h 88) {k x : Int} (e : I 88 56 = x) (hx : 0 ≤ x ∧ x < 1900000) (hk : 0 < k ∧ k ≤ 7) : rn (d + 1) 284 [iR (some 88), iI k] (st h I J) = some (oI (nd x % k), st h (up I 88 56 (nd x)) J) := by
  have n1 := nd_in (x := x)
  have r1 := Int.emod_nonneg (nd x) (show k ≠ 0 by omega)
  have r2 := Int.emod_lt_of_pos (nd x) (show 0 < k by omega)
  have en : (1103 * x + 12345) % 1000003 = nd x := by
    unfold nd
    rw [Int.mul_comm]
  rw [r_M_draws, e_M_draws, ygIv (bT_88 m) e, wl_id (x := 1103 * x) (by omega) (by omega), wl_id (x := 1103 * x + 12345) (by omega) (by omega), xmJ_ok (by omega), Int.tmod_eq_emod_of_nonneg (by omega), en, wl_id (x := nd x) (by omega) (by omega), wr_id (x := nd x) (by omega) (by omega), ypI (bT_88 m) (by omega), ygIv (x := nd x) (bT_88 m) (up_eq _ _ _ _), xmI_ok (by omega), Int.tmod_eq_emod_of_nonneg (by omega), wr_id (x := nd x % k) (by omega) (by omega)]
/-- what is drawn, exchanged: the reference -/
theorem m_act (m : ShM h 88) {x : Int} (c : CK (I 90) LW L n) (hn : 0 < n) (e56 : I 88 56 = x) (hx : 0 ≤ x ∧ x < 1900000) : ∃ I1, AcFr I1 I ∧ I1 88 56 = nd (nd (nd (nd x))) ∧ I1 90 = actK (I 90) L n (nd x) (nd (nd x)) (nd (nd (nd x))) (nd (nd (nd (nd x)))) ∧ rn (d + 47) 285 [iR (some 88)] (st h I J) = some (o0, st h I1 J) := by
  have kk := c.1
  have k1 := kk.1
  have en := c.2.2.2
  have hL : LwR (I 90) L := by
    rw [← c.2.2.1]
    exact lvOf_ok kk c.2.1
  have n1 := nd_in (x := x)
  have n2 := nd_in (x := nd x)
  have n3 := nd_in (x := nd (nd x))
  have n4 := nd_in (x := nd (nd (nd x)))
  obtain ⟨I1, eI1⟩ : ∃ I1, I1 = up I 88 56 (nd x) := ⟨_, rfl⟩
  obtain ⟨I2, eI2⟩ : ∃ I2, I2 = up I1 88 56 (nd (nd x)) := ⟨_, rfl⟩
  obtain ⟨I3, eI3⟩ : ∃ I3, I3 = up I2 88 56 (nd (nd (nd x))) := ⟨_, rfl⟩
  obtain ⟨I4, eI4⟩ : ∃ I4, I4 = up I3 88 56 (nd (nd (nd (nd x)))) := ⟨_, rfl⟩
  have d1 := m_draws (d := d + 45) (J := J) m (k := n) e56 hx (by omega)
  rw [← eI1] at d1
  have d2 := m_draws (d := d + 45) (J := J) m (I := I1) (k := n) (x := nd x) (by rw [eI1]; exact up_eq _ _ _ _) (by omega) (by omega)
  rw [← eI2] at d2
  have d3 := m_draws (d := d + 45) (J := J) m (I := I2) (k := n) (x := nd (nd x)) (by rw [eI2]; exact up_eq _ _ _ _) (by omega) (by omega)
  rw [← eI3] at d3
  have d4 := m_draws (d := d + 45) (J := J) m (I := I3) (k := 4) (x := nd (nd (nd x))) (by rw [eI3]; exact up_eq _ _ _ _) (by omega) (by omega)
  rw [← eI4] at d4
  have f1 : AcFr I1 I := by rw [eI1]; exact AcFr.u56 _ _
  have f2 : AcFr I2 I1 := by rw [eI2]; exact AcFr.u56 _ _
  have f3 : AcFr I3 I2 := by rw [eI3]; exact AcFr.u56 _ _
  have f4 : AcFr I4 I3 := by rw [eI4]; exact AcFr.u56 _ _
  have g1 : I1 90 = I 90 := by rw [eI1, up_na (by omega)]
  have g2 : I2 90 = I 90 := by rw [eI2, up_na (by omega), g1]
  have g3 : I3 90 = I 90 := by rw [eI3, up_na (by omega), g2]
  have g4 : I4 90 = I 90 := by rw [eI4, up_na (by omega), g3]
  have h4 : I4 88 56 = nd (nd (nd (nd x))) := by rw [eI4]; exact up_eq _ _ _ _
  have F4 : AcFr I4 I := ((f4.tr f3).tr f2).tr f1
  have eA : actK (I 90) L n (nd x) (nd (nd x)) (nd (nd (nd x))) (nd (nd (nd (nd x)))) = (if nd (nd (nd (nd x))) % 4 < 2 then (if 0 ≤ swapV (I 90) L (nd x % n) (nd (nd x) % n) then swapF (I 90) (nd x % n) (nd (nd x) % n) else I 90) else if nd (nd (nd (nd x))) % 4 = 2 then (if 0 ≤ roundV (I 90) L (nd x % n) (nd (nd x) % n) (nd (nd (nd x)) % n) then roundF (I 90) (nd x % n) (nd (nd x) % n) (nd (nd (nd x)) % n) else I 90) else I 90) := rfl
  generalize actK (I 90) L n (nd x) (nd (nd x)) (nd (nd (nd x))) (nd (nd (nd (nd x)))) = AK at eA ⊢
  generalize nd (nd (nd (nd x))) = x4 at *
  generalize nd (nd (nd x)) = x3 at *
  generalize nd (nd x) = x2 at *
  generalize nd x = x1 at *
  have b1 : 0 ≤ x1 % (n : Int) ∧ x1 % (n : Int) < I 90 183 := by
    have := Int.emod_nonneg x1 (show (n : Int) ≠ 0 by omega)
    have := Int.emod_lt_of_pos x1 (show (0 : Int) < n by omega)
    omega
  have b2 : 0 ≤ x2 % (n : Int) ∧ x2 % (n : Int) < I 90 183 := by
    have := Int.emod_nonneg x2 (show (n : Int) ≠ 0 by omega)
    have := Int.emod_lt_of_pos x2 (show (0 : Int) < n by omega)
    omega
  have b3 : 0 ≤ x3 % (n : Int) ∧ x3 % (n : Int) < I 90 183 := by
    have := Int.emod_nonneg x3 (show (n : Int) ≠ 0 by omega)
    have := Int.emod_lt_of_pos x3 (show (0 : Int) < n by omega)
    omega
  generalize x1 % (n : Int) = a1 at *
  generalize x2 % (n : Int) = a2 at *
  generalize x3 % (n : Int) = a3 at *
  have hh : rn (d + 47) 285 [iR (some 88)] (st h I J) = (if x4 % 4 < 2 then (if a1 = a2 then lp (d + 46) 285 999999 60 [some (iR (some 88)), some (iI a1), some (iI a2), some (iI a3), some (iI (x4 % 4))] [] (st h I4 J) else xck (st h I4 J) 88 22 <| kI (rn (d + 46) 230 [iR (some 88), iI a1, iI a2] (st h I4 J)) fun x16 h15 => (if x16 = 0 then lp (d + 46) 285 999999 60 [some (iR (some 88)), some (iI a1), some (iI a2), some (iI a3), some (iI (x4 % 4))] [] h15 else xck h15 88 22 <| kV (rn (d + 46) 231 [iR (some 88), iI a1, iI a2] h15) fun h17 => lp (d + 46) 285 999999 60 [some (iR (some 88)), some (iI a1), some (iI a2), some (iI a3), some (iI (x4 % 4))] [] h17)) else lp (d + 46) 285 999999 60 [some (iR (some 88)), some (iI a1), some (iI a2), some (iI a3), some (iI (x4 % 4))] [] (st h I4 J)) := by
    rw [r_M_drawnAct, e_M_drawnAct, yck (bT_88 m), m_many m en, kI_o, yck (bT_88 m), d1, kI_o, yck (bT_88 m), m_many m (I := I1) (x := (n : Int)) (by rw [g1]; exact en), kI_o, yck (bT_88 m), d2, kI_o, yck (bT_88 m), m_many m (I := I2) (x := (n : Int)) (by rw [g2]; exact en), kI_o, yck (bT_88 m), d3, kI_o, yck (bT_88 m), d4, kI_o]
  rw [hh]
  by_cases q1 : x4 % 4 < 2
  · rw [if_pos q1] at eA
    rw [if_pos q1]
    have e60 : ∀ (I' : Nat → Nat → Int), lp (d + 46) 285 999999 60 [some (iR (some 88)), some (iI a1), some (iI a2), some (iI a3), some (iI (x4 % 4))] [] (st h I' J) = some (o0, st h I' J) := fun I' => by
      show lp (d + 46) 285 (999998 + 1) 60 _ _ _ = _
      rw [e_M_drawnAct_60, if_neg (by omega)]
    by_cases q2 : a1 = a2
    · rw [if_neg (fun z => ((swV_iff kk b1 b2).1 z).1 q2)] at eA
      rw [if_pos q2, e60]
      exact ⟨I4, F4, h4, by rw [g4, eA], rfl⟩
    rw [if_neg q2, yck (bT_88 m)]
    obtain ⟨I5, v, c1, c2, c3, c4⟩ := m_canSw (d := d) (J := J) (I := I4) (L := L) m (by rw [g4]; exact kk) (by rw [g4]; exact hL) (a := a1) (b := a2) (by rw [g4]; exact b1) (by rw [g4]; exact b2)
    rw [g4] at c4
    have g5 : I5 90 = I 90 := (c1.1 90 (by omega) (by omega)).trans g4
    have h5 : I5 88 56 = x4 := (c1.2 56 (by omega) (by omega) (by omega) (by omega)).trans h4
    rw [c2, kI_o]
    by_cases q3 : v = 0
    · rw [if_neg (fun z => by have := c4.2 ((swV_iff kk b1 b2).1 z).2; omega)] at eA
      rw [if_pos q3, e60]
      exact ⟨I5, c1.ac.tr F4, h5, by rw [g5, eA], rfl⟩
    · rw [if_pos ((swV_iff kk b1 b2).2 ⟨q2, c4.1 (by omega)⟩)] at eA
      obtain ⟨I6, z1, z2, z3⟩ := m_swaps (d := d + 45) (J := J) (I := I5) m (a := a1) (b := a2) (by omega) (by omega)
      rw [if_neg q3, yck (bT_88 m), z3, kV_o, e60]
      exact ⟨I6, (show AcFr I6 I5 from ⟨fun b _ q _ _ => z1 b q, fun i _ _ _ _ _ => by rw [z1 88 (by omega)]⟩).tr (c1.ac.tr F4), by rw [z1 88 (by omega), h5], by rw [z2, g5, eA], rfl⟩
  rw [if_neg q1] at eA
  rw [if_neg q1]
  show ∃ I1, _ ∧ _ ∧ _ ∧ lp (d + 46) 285 (999998 + 1) 60 _ _ _ = _
  rw [e_M_drawnAct_60]
  by_cases q2 : x4 % 4 = 2
  case neg =>
    rw [if_neg q2] at eA
    rw [if_neg q2]
    exact ⟨I4, F4, h4, by rw [g4, eA], rfl⟩
  rw [if_pos q2] at eA
  rw [if_pos q2]
  have no : ∀ z : ¬ ((a1 ≠ a2 ∧ a2 ≠ a3 ∧ a1 ≠ a3) ∧ canRd (I 90) L a1 a2 a3), AK = I 90 := fun z => by
    rw [if_neg (fun w => z ((rdV_iff kk b1 b2 b3).1 w))] at eA
    exact eA
  by_cases p1 : a1 = a2
  · rw [if_pos p1]
    exact ⟨I4, F4, h4, by rw [g4, no (fun z => z.1.1 p1)], rfl⟩
  rw [if_neg p1]
  by_cases p2 : a2 = a3
  · rw [if_pos p2]
    exact ⟨I4, F4, h4, by rw [g4, no (fun z => z.1.2.1 p2)], rfl⟩
  rw [if_neg p2]
  by_cases p3 : a1 = a3
  · rw [if_pos p3]
    exact ⟨I4, F4, h4, by rw [g4, no (fun z => z.1.2.2 p3)], rfl⟩
  rw [if_neg p3, yck (bT_88 m)]
  obtain ⟨I5, v, c1, c2, c3, c4⟩ := m_canRd (d := d) (J := J) (I := I4) (L := L) m (by rw [g4]; exact kk) (by rw [g4]; exact hL) (a := a1) (b := a2) (c := a3) (by rw [g4]; exact b1) (by rw [g4]; exact b2) (by rw [g4]; exact b3)
  rw [g4] at c4
  have g5 : I5 90 = I 90 := (c1.1 90 (by omega) (by omega)).trans g4
  have h5 : I5 88 56 = x4 := (c1.2 56 (by omega) (by omega) (by omega) (by omega)).trans h4
  rw [c2, kI_o]
  by_cases q3 : v = 0
  · rw [if_pos q3]
    exact ⟨I5, c1.ac.tr F4, h5, by rw [g5, no (fun z => by have := c4.2 z.2; omega)], rfl⟩
  · rw [if_pos ((rdV_iff kk b1 b2 b3).2 ⟨⟨p1, p2, p3⟩, c4.1 (by omega)⟩)] at eA
    obtain ⟨I6, z1, z2, z3⟩ := m_goes (d := d + 45) (J := J) (I := I5) m (a := a1) (b := a2) (c := a3) (by omega) (by omega) (by omega) p2 p3
    rw [if_neg q3, yck (bT_88 m), z3, kV_o]
    exact ⟨I6, (show AcFr I6 I5 from ⟨fun b _ q _ _ => z1 b q, fun i _ _ _ _ _ => by rw [z1 88 (by omega)]⟩).tr (c1.ac.tr F4), by rw [z1 88 (by omega), h5], by rw [z2, g5, eA], rfl⟩
theorem l_cenM (m : ShM h 88) {N : Nat} (hN : N ≤ 60) (hn : 0 < n) : ∀ (q j f : Nat) (I : Nat → Nat → Int) (x : Int), j + q = N → (0 ≤ x ∧ x < 1900000) → I 88 56 = x → CK (I 90) LW L n → ∃ (I1 : Nat → Nat → Int) (f1 : Nat), f ≤ f1 ∧ AcFr I1 I ∧ I1 90 = cenK L n (I 90) x q ∧ lp (d + 48) 286 (f + q + 1) 60 [some (iR (some 88)), none, some (iI (N : Int)), some (iI (j : Int)), none] [] (st h I J) = lp (d + 48) 286 f1 100 [some (iR (some 88)), none, none, some (iI (cntSelf (cenK L n (I 90) x q) n : Nat)), some (iI 0)] [] (st h I1 J) := by
  intro q
  induction q with
  | zero =>
    intro j f I x hj hx e56 c
    have k1 := c.1.1
    have en := c.2.2.2
    have hc := s_homeMany (d := d + 46) (J := J) m (I := I) k1
    rw [show (I 90 183).toNat = n by omega] at hc
    refine ⟨I, f, Nat.le_refl _, AcFr.rf _, rfl, ?_⟩
    rw [Nat.add_zero, e_M_centuries_60, if_neg (by omega), yck (bT_88 m), hc, kI_o]
    rfl
  | succ q ih =>
    intro j f I x hj hx e56 c
    have k1 := c.1.1
    have en := c.2.2.2
    have hc := s_homeMany (d := d + 46) (J := J) m (I := I) k1
    rw [show (I 90 183).toNat = n by omega] at hc
    rw [show f + (q + 1) + 1 = (f + q + 1) + 1 by omega, e_M_centuries_60, if_pos (by omega), ygR (bT_88 m) (bR_2 m), xB_s, yaIv (i := 112) (j := 112) (bT_90 m) (bL_90 m) rfl (by omega) rfl]
    show ∃ (I1 : Nat → Nat → Int) (f1 : Nat), f ≤ f1 ∧ _ ∧ I1 90 = (if I 90 112 < 999 then cenK L n (yrK (I 90) L n x) (nd (nd (nd (nd x)))) q else I 90) ∧ _ = lp (d + 48) 286 f1 100 [some (iR (some 88)), none, none, some (iI (cntSelf (if I 90 112 < 999 then cenK L n (yrK (I 90) L n x) (nd (nd (nd (nd x)))) q else I 90) n : Nat)), some (iI 0)] [] (st h I1 J)
    by_cases hy : I 90 112 < 999
    · obtain ⟨I2, a1, a2, a3, a4⟩ := m_act (d := d + 1) (J := J) m c hn e56 hx
      have ca := c.act hn (nd x) (nd (nd x)) (nd (nd (nd x))) (nd (nd (nd (nd x))))
      rw [← a3] at ca
      obtain ⟨I3, b1, b2, b3, b4⟩ := m_year (d := d + 3) (J := J) (I := I2) (L := L) (n := n) m ca.1.1 (by rw [← ca.1.2.2.1]; exact lvOf_ok ca.1.1 ca.1.2.1) ca.1.2.2.2
      have g3 : I3 90 = yrK (I 90) L n x := by
        rw [b3, a3]
        rfl
      have n4 := nd_in (x := nd (nd (nd x)))
      have b13 : AcFr I3 I2 := ⟨fun b q1 q2 q3 q4 => by
        by_cases z : b = 101
        · rw [z]
          exact b2.1
        · exact b1.1 b q1 q2 q3 z q4, fun i q1 q2 q3 q4 q5 => by
        by_cases z : i = 31
        · rw [z]
          exact b2.2
        · exact b1.2 i q1 q2 q3 q4 z⟩
      obtain ⟨I1, f1, r1, r2, r3, r4⟩ := ih (j + 1) f I3 (nd (nd (nd (nd x)))) (by omega) (by omega) ((b1.2 56 (by omega) (by omega) (by omega) (by omega) (by omega)).trans a2) (by rw [g3]; exact (c.yr hn hy x).1)
      rw [g3] at r3 r4
      rw [if_pos hy, if_pos hy]
      refine ⟨I1, f1, r1, (r2.tr b13).tr a1, r3, ?_⟩
      rw [yck (bT_88 m), a4, kV_o, yck (bT_88 m), b4, kV_o, wr_id (x := (j : Int) + 1) (by omega) (by omega), show (j : Int) + 1 = ((j + 1 : Nat) : Int) by omega]
      exact r4
    · rw [if_neg hy, if_neg hy]
      exact ⟨I, f + q + 1, by omega, AcFr.rf _, rfl, by rw [yck (bT_88 m), hc, kI_o]⟩
theorem l_asd (m : ShM h 88) : ∀ (q i f : Nat) (I : Nat → Nat → Int), i + q = 113 → lp d 156 (f + q + 1) 2 [some (iR (some 88)), some (iI 0), some (iI (i : Int))] [] (st h I J) = some (o0, st h (cpy I 90 i 93 i q) J) := by
  intro q
  induction q with
  | zero =>
    intro i f I hi
    rw [Nat.add_zero, e_M_laysAside_2, if_neg (by omega), cpy_0]
  | succ q ih =>
    intro i f I hi
    rw [show f + (q + 1) + 1 = (f + q + 1) + 1 by omega, e_M_laysAside_2, if_pos (by omega), ygR (bT_88 m) (bR_5 m), ygR (bT_88 m) (bR_2 m), xB_s, zAI (i := i) (bT_90 m) (bL_90 m) rfl (by omega), xB_s, wr_id (x := 113 * (0 : Int)) (by omega) (by omega), wr_id (x := 113 * (0 : Int) + (i : Int)) (by omega) (by omega), zSI (i := i) (bT_93 m) (by omega) (bL_93 m) (by omega) (by omega), wr_id (x := (i : Int) + 1) (by omega) (by omega), show (i : Int) + 1 = ((i + 1 : Nat) : Int) by omega, ih (i + 1) f _ (by omega), cpy_step I _ _ _ (by omega)]
theorem l_tkb (m : ShM h 88) : ∀ (q i f : Nat) (I : Nat → Nat → Int), i + q = 113 → lp d 157 (f + q + 1) 2 [some (iR (some 88)), some (iI 0), some (iI (i : Int))] [] (st h I J) = some (o0, st h (cpy I 93 i 90 i q) J) := by
  intro q
  induction q with
  | zero =>
    intro i f I hi
    rw [Nat.add_zero, e_M_takesBack_2, if_neg (by omega), cpy_0]
  | succ q ih =>
    intro i f I hi
    rw [show f + (q + 1) + 1 = (f + q + 1) + 1 by omega, e_M_takesBack_2, if_pos (by omega), ygR (bT_88 m) (bR_2 m), ygR (bT_88 m) (bR_5 m), xB_s, wr_id (x := 113 * (0 : Int)) (by omega) (by omega), wr_id (x := 113 * (0 : Int) + (i : Int)) (by omega) (by omega), zAI (i := i) (bT_93 m) (bL_93 m) (by omega) (by omega), xB_s, zSI (i := i) (bT_90 m) (by omega) (bL_90 m) rfl (by omega), wr_id (x := (i : Int) + 1) (by omega) (by omega), show (i : Int) + 1 = ((i + 1 : Nat) : Int) by omega, ih (i + 1) f _ (by omega), cpy_step I _ _ _ (by omega)]
theorem m_aside (m : ShM h 88) : rn (d + 1) 156 [iR (some 88), iI 0] (st h I J) = some (o0, st h (cpy I 90 0 93 0 113) J) := by
  rw [r_M_laysAside, e_M_laysAside]
  exact l_asd m 113 0 999885 I rfl
theorem m_takeb (m : ShM h 88) : rn (d + 1) 157 [iR (some 88), iI 0] (st h I J) = some (o0, st h (cpy I 93 0 90 0 113) J) := by
  rw [r_M_takesBack, e_M_takesBack]
  exact l_tkb m 113 0 999885 I rfl
theorem l_cen100 (m : ShM h 88) (x : Int) : ∀ (q i f : Nat) (I : Nat → Nat → Int), i + q = 113 → lp (d + 1) 286 (f + q + 1) 100 [some (iR (some 88)), none, none, some (iI x), some (iI (i : Int))] [] (st h I J) = some (oI x, st h (up (cpy (cpy I 90 i 117 i q) 93 0 90 0 113) 88 0 0) J) := by
  intro q
  induction q with
  | zero =>
    intro i f I hi
    rw [Nat.add_zero, e_M_centuries_100, if_neg (by omega), yck (bT_88 m), m_takeb m, kV_o, yck (bT_88 m), s_good m, kI_o, cpy_0]
  | succ q ih =>
    intro i f I hi
    rw [show f + (q + 1) + 1 = (f + q + 1) + 1 by omega, e_M_centuries_100, if_pos (by omega), ygR (bT_88 m) (bR_54 m), ygR (bT_88 m) (bR_2 m), xB_s, zAI (i := i) (bT_90 m) (bL_90 m) rfl (by omega), xB_s, zSI (i := i) (bT_117 m) (by omega) (bL_117 m) rfl (by omega), wr_id (x := (i : Int) + 1) (by omega) (by omega), show (i : Int) + 1 = ((i + 1 : Nat) : Int) by omega, ih (i + 1) f _ (by omega), cpy_step I _ _ _ (by omega)]
end P98s
