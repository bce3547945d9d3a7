/-! What is asked of the state: between, of, sunday, drawn (by program, wip/whole/gen95.py) -/
section P95
variable {h : IH} {I I0 I1 I2 I' J : Nat → Nat → Int} {k L d : Nat} {xs : Nat → Int32} {K : Nat → Int} {LW : Nat → Nat × (Nat → Cls)}
theorem m_isT (m : ShM h 88) (x : Int) (e : I 90 = K) (hn : 0 ≤ K 183 ∧ K 183 ≤ 7) : rn (d + 2) 161 [iR (some 88), iI x] (st h I J) = some (oI (if 0 ≤ x ∧ x < K 183 then 1 else 0), st h I J) := by
  have e' : I (88 + 2) 183 = K 183 := by
    show I 90 183 = K 183
    rw [e]
  rw [s_isTownM m x (by rw [e']; exact hn), e']
theorem m_two (m : ShM h 88) (x y : Int) (e : I 90 = K) (hn : 0 ≤ K 183 ∧ K 183 ≤ 7) : rn (d + 3) 162 [iR (some 88), iI x, iI y] (st h I J) = some (oI (if (0 ≤ x ∧ x < K 183) ∧ (0 ≤ y ∧ y < K 183) ∧ x ≠ y then 1 else 0), st h I J) := by
  have e' : I (88 + 2) 183 = K 183 := by
    show I 90 183 = K 183
    rw [e]
  rw [s_areTwo m x y (by rw [e']; exact hn), e']
theorem t_isT (o : NowOk h I K LW) (x : Int) : rn (d + 1) 10 [iR (some 4), iI x] (st h I J) = some (oI (if 0 ≤ x ∧ x < K 183 then 1 else 0), st h I J) := by
  rw [s_isTown (ShT_4 o.1) x, o.2.1.1]
theorem m_miles (m : ShM h 88) {x y : Int} (e : I 90 = K) (hx : 0 ≤ x ∧ x < 7) (hy : 0 ≤ y ∧ y < 7) : rn (d + 2) 168 [iR (some 88), iI x, iI y] (st h I J) = some (oI (milesK K x y), st h I J) := by
  have e' : I (88 + 2) (120 + (7 * x + y)).toNat = milesK K x y := by
    show I 90 (120 + (7 * x + y)).toNat = K (120 + (7 * x + y).toNat)
    rw [e]
    congr 1
    omega
  rw [s_milesOf m hx hy, e']
theorem t_miles (o : NowOk h I K LW) {x y : Int} (hx : 0 ≤ x ∧ x < 7) (hy : 0 ≤ y ∧ y < 7) : rn (d + 1) 13 [iR (some 4), iI x, iI y] (st h I J) = some (oI (milesK K x y), st h I J) := by
  rw [s_milesBetween (ShT_4 o.1) hx hy, (o.2.1.2.2.1.2.1 (x * 7 + y).toNat (by omega)).2]
  unfold milesK
  rw [show x * 7 + y = 7 * x + y by omega]
theorem t_closed (o : NowOk h I K LW) {x y : Int} (hx : 0 ≤ x ∧ x < 7) (hy : 0 ≤ y ∧ y < 7) : rn (d + 1) 14 [iR (some 4), iI x, iI y] (st h I J) = some (oI (K (63 + (7 * x + y).toNat)), st h I J) := by
  have e := o.2.1.2.2.1.2.2 x.toNat y.toNat (by omega) (by omega)
  rw [show ((y.toNat : Nat) : Int) = y by omega, show 63 + (7 * x.toNat + y.toNat) = 63 + (7 * x + y).toNat by omega] at e
  rw [s_closedBetween (ShT_4 o.1) hx]
  exact congrArg (fun z => some (oI z, st h I J)) e
theorem C_between (v : Inv L xs k h I) (hk : k < 1000) (x y z : Int) : Cal L xs k h I J 103 171 [iI x, iI y, iI z] := by
  obtain ⟨LW, o⟩ := v.now
  have s := v.t
  have m := v.m
  have kk := o.2.2.1
  have hn := kk.1
  have E : ∀ I1, TnQ I1 I → I1 90 = I 90 := fun I1 t => t 90 (by omega) (by omega) (by omega) (by omega)
  by_cases c : (0 ≤ x ∧ x < I 90 183) ∧ (0 ≤ y ∧ y < I 90 183) ∧ x ≠ y
  · obtain ⟨c1, c2, c3⟩ := id c
    by_cases z0 : z = 0
    · refine Cal.q v hk (milesK (I 90) x y) (fun d => ⟨I, J, TnQ.rf I, ?_⟩) fun d I1 J1 t => ⟨I1, J1, MnQ.rf I1, ?_⟩
      · rw [r_T_between, e_T_between, if_neg c3, ygR (aT_3 s) (aR_3_0 s), xB_s, yck (aT_4 s), t_isT (d := d + 98) o x, kI_o, if_pos c1, if_neg (by omega), ygR (aT_3 s) (aR_3_0 s), xB_s, yck (aT_4 s), t_isT (d := d + 98) o y, kI_o, if_pos c2, if_neg (by omega), if_pos z0, ygR (aT_3 s) (aR_3_0 s), xB_s, yck (aT_4 s), t_miles (d := d + 98) o (by omega) (by omega), kI_o]
      · have e90 := E I1 t
        rw [r_M_between, e_M_between, yck (bT_88 m), m_two (d := d + 96) m x y e90 hn, kI_o, if_pos c, if_neg (by omega), s_lies (d := d + 98), kI_o, if_pos (show (0 : Int) ≤ z ∧ z ≤ 1 by omega), if_neg (by omega), if_pos z0, yck (bT_88 m), m_miles (d := d + 97) m e90 (by omega) (by omega), kI_o]
    · by_cases z1 : z = 1
      · refine Cal.q v hk (I 90 (63 + (7 * x + y).toNat)) (fun d => ⟨I, J, TnQ.rf I, ?_⟩) fun d I1 J1 t => ⟨I1, J1, MnQ.rf I1, ?_⟩
        · rw [r_T_between, e_T_between, if_neg c3, ygR (aT_3 s) (aR_3_0 s), xB_s, yck (aT_4 s), t_isT (d := d + 98) o x, kI_o, if_pos c1, if_neg (by omega), ygR (aT_3 s) (aR_3_0 s), xB_s, yck (aT_4 s), t_isT (d := d + 98) o y, kI_o, if_pos c2, if_neg (by omega), if_neg z0, if_pos z1, ygR (aT_3 s) (aR_3_0 s), xB_s, yck (aT_4 s), t_closed (d := d + 98) o (by omega) (by omega), kI_o]
        · have e90 := E I1 t
          rw [r_M_between, e_M_between, yck (bT_88 m), m_two (d := d + 96) m x y e90 hn, kI_o, if_pos c, if_neg (by omega), s_lies (d := d + 98), kI_o, if_pos (show (0 : Int) ≤ z ∧ z ≤ 1 by omega), if_neg (by omega), if_neg z0, ygR (bT_88 m) (bR_2 m), s_pairAt (d := d + 98) _ (by omega) (by omega), kI_o, xB_s, zAI (i := 63 + (7 * x + y).toNat) (bT_90 m) (bL_90 m) (by rw [wr_id (by omega) (by omega)]; omega) (by omega), e90]
      · refine Cal.q v hk (-1) (fun d => ⟨I, J, TnQ.rf I, ?_⟩) fun d I1 J1 t => ⟨I1, J1, MnQ.rf I1, ?_⟩
        · rw [r_T_between, e_T_between, if_neg c3, ygR (aT_3 s) (aR_3_0 s), xB_s, yck (aT_4 s), t_isT (d := d + 98) o x, kI_o, if_pos c1, if_neg (by omega), ygR (aT_3 s) (aR_3_0 s), xB_s, yck (aT_4 s), t_isT (d := d + 98) o y, kI_o, if_pos c2, if_neg (by omega), if_neg z0, if_neg z1]
        · have e90 := E I1 t
          rw [r_M_between, e_M_between, yck (bT_88 m), m_two (d := d + 96) m x y e90 hn, kI_o, if_pos c, if_neg (by omega), s_lies (d := d + 98), kI_o, if_neg (show ¬ ((0 : Int) ≤ z ∧ z ≤ 1) by omega), if_pos rfl]
  · refine Cal.q v hk (-1) (fun d => ⟨I, J, TnQ.rf I, ?_⟩) fun d I1 J1 t => ⟨I1, J1, MnQ.rf I1, ?_⟩
    · rw [r_T_between, e_T_between]
      by_cases c3 : x = y
      · rw [if_pos c3]
      rw [if_neg c3, ygR (aT_3 s) (aR_3_0 s), xB_s, yck (aT_4 s), t_isT (d := d + 98) o x, kI_o]
      by_cases c1 : 0 ≤ x ∧ x < I 90 183
      · rw [if_pos c1, if_neg (by omega), ygR (aT_3 s) (aR_3_0 s), xB_s, yck (aT_4 s), t_isT (d := d + 98) o y, kI_o, if_neg (show ¬ (0 ≤ y ∧ y < I 90 183) from fun z => c ⟨c1, z, c3⟩), if_pos rfl]
      · rw [if_neg c1, if_pos rfl]
    · have e90 := E I1 t
      rw [r_M_between, e_M_between, yck (bT_88 m), m_two (d := d + 96) m x y e90 hn, kI_o, if_neg c, if_pos rfl]
theorem C_sunday (v : Inv L xs k h I) (hk : k < 1000) (x y : Int) : Cal L xs k h I J 101 166 [iI x, iI y] := by
  obtain ⟨LW, o⟩ := v.now
  have s := v.t
  have m := v.m
  have kk := o.2.2.1
  have hn := kk.1
  have hL := lvOf_ok kk o.2.2.2.1
  have E : ∀ I1, TnQ I1 I → I1 90 = I 90 := fun I1 t => t 90 (by omega) (by omega) (by omega) (by omega)
  by_cases c1 : 0 ≤ x ∧ x < I 90 183
  case neg =>
    refine Cal.q v hk (-1) (fun d => ⟨I, J, TnQ.rf I, ?_⟩) fun d I1 J1 t => ⟨I1, J1, MnQ.rf I1, ?_⟩
    · rw [r_T_sunday, e_T_sunday, ygR (aT_3 s) (aR_3_0 s), xB_s, yck (aT_4 s), t_isT (d := d + 98) o x, kI_o, if_neg c1, if_pos rfl]
    · have e90 := E I1 t
      rw [r_M_sunday, e_M_sunday, yck (bT_88 m), m_isT (d := d + 97) m x e90 hn, kI_o, if_neg c1, if_pos rfl]
  have hw : ∀ I1, I1 90 = I 90 → ∀ d J1, rn (d + 1) 163 [iR (some 88), iI x] (st h I1 J1) = some (oI (atK (I 90) x), st h I1 J1) := fun I1 e90 d J1 => by
    have ha := s_whereIs (d := d) (J := J1) (I := I1) m (s := x) (k := (I 90 183).toNat) (by omega) (by
      obtain ⟨u, u1, u2⟩ := kk.2.1.2 x.toNat (by omega)
      exact ⟨u, by omega, by show I1 90 u = x; rw [e90, u2]; omega⟩)
    rw [ha]
    show some (oI ((firstAt (I1 90) x 0 (I 90 183).toNat : Nat) : Int), st h I1 J1) = _
    rw [e90]
    rfl
  have ha := atK_ok kk c1
  by_cases z0 : y = 0
  · refine Cal.q v hk (atK (I 90) x) (fun d => ⟨I, J, TnQ.rf I, ?_⟩) fun d I1 J1 t => ⟨I1, J1, MnQ.rf I1, ?_⟩
    · rw [r_T_sunday, e_T_sunday, ygR (aT_3 s) (aR_3_0 s), xB_s, yck (aT_4 s), t_isT (d := d + 98) o x, kI_o, if_pos c1, if_neg (by omega), if_pos z0, ygR (aT_3 s) (aR_3_0 s), xB_s, ygR (aT_4 s) (aR_4_2 s), xB_s, zAI (i := x.toNat) (aT_6 s) (aL_6 s) (by omega) (by omega), o.2.1.at (by omega) c1.2]
    · have e90 := E I1 t
      rw [r_M_sunday, e_M_sunday, yck (bT_88 m), m_isT (d := d + 97) m x e90 hn, kI_o, if_pos c1, if_neg (by omega), if_pos z0, yck (bT_88 m), hw I1 e90 (d + 98) J1, kI_o]
  by_cases z1 : y = 1
  · refine Cal.q v hk (I 90 (7 + x.toNat)) (fun d => ⟨I, J, TnQ.rf I, ?_⟩) fun d I1 J1 t => ⟨I1, J1, MnQ.rf I1, ?_⟩
    · rw [r_T_sunday, e_T_sunday, ygR (aT_3 s) (aR_3_0 s), xB_s, yck (aT_4 s), t_isT (d := d + 98) o x, kI_o, if_pos c1, if_neg (by omega), if_neg z0, if_pos z1, ygR (aT_3 s) (aR_3_0 s), xB_s, ygR (aT_4 s) (aR_4_3 s), xB_s, zAI (i := x.toNat) (aT_7 s) (aL_7 s) (by omega) (by omega), (o.2.1.2.2.1.1 x.toNat (by omega)).1]
    · have e90 := E I1 t
      rw [r_M_sunday, e_M_sunday, yck (bT_88 m), m_isT (d := d + 97) m x e90 hn, kI_o, if_pos c1, if_neg (by omega), if_neg z0, if_pos z1, ygR (bT_88 m) (bR_2 m), xB_s, zAI (i := 7 + x.toNat) (bT_90 m) (bL_90 m) (by rw [wr_id (by omega) (by omega)]; omega) (by omega), e90]
  by_cases z2 : y = 2
  · refine Cal.q v hk (I 90 (113 + x.toNat)) (fun d => ⟨I, J, TnQ.rf I, ?_⟩) fun d I1 J1 t => ⟨I1, J1, MnQ.rf I1, ?_⟩
    · rw [r_T_sunday, e_T_sunday, ygR (aT_3 s) (aR_3_0 s), xB_s, yck (aT_4 s), t_isT (d := d + 98) o x, kI_o, if_pos c1, if_neg (by omega), if_neg z0, if_neg z1, if_pos z2, ygR (aT_3 s) (aR_3_0 s), xB_s, ygR (aT_4 s) (aR_4_4 s), xB_s, zAI (i := x.toNat) (aT_8 s) (aL_8 s) (by omega) (by omega), (o.2.1.2.2.1.1 x.toNat (by omega)).2]
    · have e90 := E I1 t
      rw [r_M_sunday, e_M_sunday, yck (bT_88 m), m_isT (d := d + 97) m x e90 hn, kI_o, if_pos c1, if_neg (by omega), if_neg z0, if_neg z1, if_pos z2, ygR (bT_88 m) (bR_2 m), xB_s, zAI (i := 113 + x.toNat) (bT_90 m) (bL_90 m) (by rw [wr_id (by omega) (by omega)]; omega) (by omega), e90]
  by_cases z3 : y = 3
  · refine Cal.q v hk (altK (I 90) (lvOf (I 90) LW) (atK (I 90) x) x) (fun d => ?_) fun d I1 J1 t => ?_
    · obtain ⟨I1, f1, g1⟩ := l_alt (d := d + 95) (J := J) o.lj (s := x) (by omega)
      rw [o.2.1.alt kk c1] at g1
      refine ⟨I1, J, f1.tq (by omega) (by omega), ?_⟩
      rw [r_T_sunday, e_T_sunday, ygR (aT_3 s) (aR_3_0 s), xB_s, yck (aT_4 s), t_isT (d := d + 98) o x, kI_o, if_pos c1, if_neg (by omega), if_neg z0, if_neg z1, if_neg z2, if_pos z3, ygR (aT_3 s) (aR_3_6 s), ygR (aT_3 s) (aR_3_0 s), xB_s, yck (aT_52 s), g1, kI_o]
    · have e90 := E I1 t
      obtain ⟨I2, f2, g2⟩ := m_alt (d := d + 55) (J := J1) (I := I1) (L := lvOf (I 90) LW) m (by rw [e90]; exact kk) (by rw [e90]; exact hL) (t := atK (I 90) x) (u := x) (by rw [e90]; exact ha.1) (by rw [e90]; exact c1)
      rw [e90] at g2
      refine ⟨I2, J1, f2.mq, ?_⟩
      rw [r_M_sunday, e_M_sunday, yck (bT_88 m), m_isT (d := d + 97) m x e90 hn, kI_o, if_pos c1, if_neg (by omega), if_neg z0, if_neg z1, if_neg z2, if_pos z3, yck (bT_88 m), hw I1 e90 (d + 98) J1, kI_o, yck (bT_88 m), g2, kI_o]
  · refine Cal.q v hk (-1) (fun d => ⟨I, J, TnQ.rf I, ?_⟩) fun d I1 J1 t => ⟨I1, J1, MnQ.rf I1, ?_⟩
    · rw [r_T_sunday, e_T_sunday, ygR (aT_3 s) (aR_3_0 s), xB_s, yck (aT_4 s), t_isT (d := d + 98) o x, kI_o, if_pos c1, if_neg (by omega), if_neg z0, if_neg z1, if_neg z2, if_neg z3]
    · have e90 := E I1 t
      rw [r_M_sunday, e_M_sunday, yck (bT_88 m), m_isT (d := d + 97) m x e90 hn, kI_o, if_pos c1, if_neg (by omega), if_neg z0, if_neg z1, if_neg z2, if_neg z3]
theorem C_of (v : Inv L xs k h I) (hk : k < 1000) (x y : Int) (hy32 : -2147483648 ≤ y ∧ y ≤ 2147483647) : Cal L xs k h I J 100 165 [iI x, iI y] := by
  obtain ⟨LW, o⟩ := v.now
  have s := v.t
  have m := v.m
  have kk := o.2.2.1
  have hn := kk.1
  have hL := lvOf_ok kk o.2.2.2.1
  have E : ∀ I1, TnQ I1 I → I1 90 = I 90 := fun I1 t => t 90 (by omega) (by omega) (by omega) (by omega)
  by_cases c1 : 0 ≤ x ∧ x < I 90 183
  case neg =>
    refine Cal.q v hk (-1) (fun d => ⟨I, J, TnQ.rf I, ?_⟩) fun d I1 J1 t => ⟨I1, J1, MnQ.rf I1, ?_⟩
    · rw [r_T_of, e_T_of, ygR (aT_3 s) (aR_3_0 s), xB_s, yck (aT_4 s), t_isT (d := d + 98) o x, kI_o, if_neg c1, if_pos rfl]
    · have e90 := E I1 t
      rw [r_M_of, e_M_of, yck (bT_88 m), m_isT (d := d + 97) m x e90 hn, kI_o, if_neg c1, if_pos rfl]
  by_cases z0 : y = 0
  · refine Cal.q v hk (I 90 x.toNat) (fun d => ⟨I, J, TnQ.rf I, ?_⟩) fun d I1 J1 t => ⟨I1, J1, MnQ.rf I1, ?_⟩
    · rw [r_T_of, e_T_of, ygR (aT_3 s) (aR_3_0 s), xB_s, yck (aT_4 s), t_isT (d := d + 98) o x, kI_o, if_pos c1, if_neg (by omega), if_neg (by omega), if_pos (by omega), if_pos z0, ygR (aT_3 s) (aR_3_0 s), xB_s, ygR (aT_4 s) (aR_4_1 s), xB_s, zAI (i := x.toNat) (aT_5 s) (aL_5 s) (by omega) (by omega), o.2.1.has kk (u := x.toNat) (by omega)]
    · have e90 := E I1 t
      rw [r_M_of, e_M_of, yck (bT_88 m), m_isT (d := d + 97) m x e90 hn, kI_o, if_pos c1, if_neg (by omega), if_pos z0, ygR (bT_88 m) (bR_2 m), xB_s, zAI (i := x.toNat) (bT_90 m) (bL_90 m) (by rw [wr_id (by omega) (by omega)]; omega) (by omega), e90]
  by_cases c2 : 1 ≤ y ∧ y ≤ 21
  case neg =>
    refine Cal.q v hk (-1) (fun d => ⟨I, J, TnQ.rf I, ?_⟩) fun d I1 J1 t => ⟨I1, J1, MnQ.rf I1, ?_⟩
    · rw [r_T_of, e_T_of, ygR (aT_3 s) (aR_3_0 s), xB_s, yck (aT_4 s), t_isT (d := d + 98) o x, kI_o, if_pos c1, if_neg (by omega)]
      by_cases c3 : y < 0
      · rw [if_pos c3]
      · rw [if_neg c3, if_neg (by omega)]
    · have e90 := E I1 t
      rw [r_M_of, e_M_of, yck (bT_88 m), m_isT (d := d + 97) m x e90 hn, kI_o, if_pos c1, if_neg (by omega), if_neg z0, xmI_ok (by omega), s_lies (d := d + 98), kI_o, if_neg c2, if_pos rfl]
  obtain ⟨u, hu7, hu⟩ : ∃ u : Int, (0 ≤ u ∧ u < 7) ∧ wr (Int.tmod (wr (y - 1)) 7) = u := ⟨(y - 1) % 7, by omega, by rw [wr_id (x := y - 1) (by omega) (by omega), Int.tmod_eq_emod_of_nonneg (by omega), wr_id (by omega) (by omega)]⟩
  have hu1 : u = (y - 1) % 7 := by rw [← hu, wr_id (x := y - 1) (by omega) (by omega), Int.tmod_eq_emod_of_nonneg (by omega), wr_id (by omega) (by omega)]
  have hq : wr (Int.tdiv (wr (y - 1)) 7) = (y - 1) / 7 := by rw [wr_id (x := y - 1) (by omega) (by omega), Int.tdiv_eq_ediv_of_nonneg (by omega), wr_id (by omega) (by omega)]
  have isU : ∀ d J1, rn (d + 1) 10 [iR (some 4), iI u] (st h I J1) = some (oI (if 0 ≤ u ∧ u < I 90 183 then 1 else 0), st h I J1) := fun d J1 => t_isT o u
  by_cases c4 : 0 ≤ u ∧ u < I 90 183
  case neg =>
    refine Cal.q v hk (-1) (fun d => ⟨I, J, TnQ.rf I, ?_⟩) fun d I1 J1 t => ⟨I1, J1, MnQ.rf I1, ?_⟩
    · rw [r_T_of, e_T_of, ygR (aT_3 s) (aR_3_0 s), xB_s, yck (aT_4 s), t_isT (d := d + 98) o x, kI_o, if_pos c1, if_neg (by omega), if_neg (by omega), if_pos (by omega), if_neg z0, xmI_ok (by omega), hu, ygR (aT_3 s) (aR_3_0 s), xB_s, yck (aT_4 s), t_isT (d := d + 98) o u, kI_o, if_neg c4, if_pos rfl]
    · have e90 := E I1 t
      rw [r_M_of, e_M_of, yck (bT_88 m), m_isT (d := d + 97) m x e90 hn, kI_o, if_pos c1, if_neg (by omega), if_neg z0, xmI_ok (by omega), hu, s_lies (d := d + 98), kI_o, if_pos c2, if_neg (by omega), yck (bT_88 m), m_isT (d := d + 97) m u e90 hn, kI_o, if_neg c4, if_pos rfl]
  by_cases z1 : y ≤ 7
  · refine Cal.q v hk (likeK (I 90) (lvOf (I 90) LW) x u) (fun d => ?_) fun d I1 J1 t => ?_
    · obtain ⟨I1, f1, -, g1⟩ := t_like (d := d + 95) (J := J) o (t := x) (u := u) (by omega) c4
      refine ⟨I1, J, f1.tq, ?_⟩
      rw [r_T_of, e_T_of, ygR (aT_3 s) (aR_3_0 s), xB_s, yck (aT_4 s), t_isT (d := d + 98) o x, kI_o, if_pos c1, if_neg (by omega), if_neg (by omega), if_pos (by omega), if_neg z0, xmI_ok (by omega), hu, ygR (aT_3 s) (aR_3_0 s), xB_s, yck (aT_4 s), t_isT (d := d + 98) o u, kI_o, if_pos c4, if_neg (by omega), xdI_ok (by omega), hq, if_pos (by omega), ygR (aT_3 s) (aR_3_6 s), ygR (aT_3 s) (aR_3_0 s), ygR (aT_3 s) (aR_3_0 s), xB_s, yck (aT_4 s), t_law (d := d + 97) o, kR_o, xB_s, yck (aT_52 s), g1, kI_o]
    · have e90 := E I1 t
      obtain ⟨I2, f2, g2⟩ := m_like (d := d + 55) (J := J1) (I := I1) (L := lvOf (I 90) LW) m (by rw [e90]; exact kk) (by rw [e90]; exact hL) (t := x) (u := u) (by rw [e90]; exact c1) (by rw [e90]; exact c4)
      rw [e90] at g2
      refine ⟨I2, J1, f2.mq, ?_⟩
      rw [r_M_of, e_M_of, yck (bT_88 m), m_isT (d := d + 97) m x e90 hn, kI_o, if_pos c1, if_neg (by omega), if_neg z0, xmI_ok (by omega), hu, s_lies (d := d + 98), kI_o, if_pos c2, if_neg (by omega), yck (bT_88 m), m_isT (d := d + 97) m u e90 hn, kI_o, if_pos c4, if_neg (by omega), if_pos z1, yck (bT_88 m), g2, kI_o]
  by_cases z2 : y ≤ 14
  · refine Cal.q v hk (I 90 (14 + (7 * x + u).toNat)) (fun d => ⟨I, J, TnQ.rf I, ?_⟩) fun d I1 J1 t => ⟨I1, J1, MnQ.rf I1, ?_⟩
    · rw [r_T_of, e_T_of, ygR (aT_3 s) (aR_3_0 s), xB_s, yck (aT_4 s), t_isT (d := d + 98) o x, kI_o, if_pos c1, if_neg (by omega), if_neg (by omega), if_pos (by omega), if_neg z0, xmI_ok (by omega), hu, ygR (aT_3 s) (aR_3_0 s), xB_s, yck (aT_4 s), t_isT (d := d + 98) o u, kI_o, if_pos c4, if_neg (by omega), xdI_ok (by omega), hq, if_neg (by omega), if_pos (by omega), ygR (aT_3 s) (aR_3_0 s), xB_s, ygR (aT_4 s) (aR_4_5 s), xB_s, wr_id (x := x * 7) (by omega) (by omega), zAI (i := (7 * x + u).toNat) (aT_9 s) (aL_9 s) (by rw [wr_id (by omega) (by omega)]; omega) (by omega), (o.2.1.2.2.1.2.1 (7 * x + u).toNat (by omega)).1]
    · have e90 := E I1 t
      rw [r_M_of, e_M_of, yck (bT_88 m), m_isT (d := d + 97) m x e90 hn, kI_o, if_pos c1, if_neg (by omega), if_neg z0, xmI_ok (by omega), hu, s_lies (d := d + 98), kI_o, if_pos c2, if_neg (by omega), yck (bT_88 m), m_isT (d := d + 97) m u e90 hn, kI_o, if_pos c4, if_neg (by omega), if_neg z1, if_pos z2, ygR (bT_88 m) (bR_2 m), s_pairAt (d := d + 98) _ (by omega) (by omega), kI_o, xB_s, zAI (i := 14 + (7 * x + u).toNat) (bT_90 m) (bL_90 m) (by rw [wr_id (by omega) (by omega)]; omega) (by omega), e90]
  · refine Cal.q v hk (haveK (I 90) (lvOf (I 90) LW) x u) (fun d => ?_) fun d I1 J1 t => ?_
    · obtain ⟨I1, f1, -, g1⟩ := t_have (d := d + 94) (J := J) o (t := x) (u := u) (by omega) c4
      refine ⟨I1, J, f1.tq, ?_⟩
      rw [r_T_of, e_T_of, ygR (aT_3 s) (aR_3_0 s), xB_s, yck (aT_4 s), t_isT (d := d + 98) o x, kI_o, if_pos c1, if_neg (by omega), if_neg (by omega), if_pos (by omega), if_neg z0, xmI_ok (by omega), hu, ygR (aT_3 s) (aR_3_0 s), xB_s, yck (aT_4 s), t_isT (d := d + 98) o u, kI_o, if_pos c4, if_neg (by omega), xdI_ok (by omega), hq, if_neg (by omega), if_neg (by omega), e_T_of_112, ygR (aT_3 s) (aR_3_6 s), ygR (aT_3 s) (aR_3_0 s), xB_s, yck (aT_52 s), g1, kI_o]
      rcases haveK_01 (K := I 90) (L := lvOf (I 90) LW) x u with q | q
      · rw [q, if_pos rfl]
      · rw [q, if_neg (by omega)]
    · have e90 := E I1 t
      obtain ⟨I2, f2, g2⟩ := m_have (d := d + 53) (J := J1) (I := I1) (L := lvOf (I 90) LW) m (by rw [e90]; exact kk) (by rw [e90]; exact hL) (t := x) (u := u) (by rw [e90]; exact c1) (by rw [e90]; exact c4)
      rw [e90] at g2
      refine ⟨I2, J1, f2.mq, ?_⟩
      rw [r_M_of, e_M_of, yck (bT_88 m), m_isT (d := d + 97) m x e90 hn, kI_o, if_pos c1, if_neg (by omega), if_neg z0, xmI_ok (by omega), hu, s_lies (d := d + 98), kI_o, if_pos c2, if_neg (by omega), yck (bT_88 m), m_isT (d := d + 97) m u e90 hn, kI_o, if_pos c4, if_neg (by omega), if_neg z1, if_neg z2, yck (bT_88 m), g2, kI_o]
      rcases haveK_01 (K := I 90) (L := lvOf (I 90) LW) x u with q | q
      · rw [q, if_pos rfl]
      · rw [q, if_neg (by omega)]
theorem C_drawn (v : Inv L xs k h I) (hk : k < 1000) (x y : Int) : Cal L xs k h I J 135 287 [iI x, iI y] := by
  have s := v.t
  have m := v.m
  obtain ⟨b1, b2, b3, -⟩ := v.c
  have sc : ShLand h 28 := s.2.2.2.2.2.1
  have E88 : ∀ I1, TnQ I1 I → I1 88 = I 88 := fun I1 t => t 88 (by omega) (by omega) (by omega) (by omega)
  have E117 : ∀ I1, TnQ I1 I → I1 117 = I 117 := fun I1 t => t 117 (by omega) (by omega) (by omega) (by omega)
  have w : wr (I 88 55 - 1) = I 88 55 - 1 := wr_id (by omega) (by omega)
  by_cases c1 : 0 ≤ x ∧ x < I 28 0
  case neg =>
    refine Cal.q v hk (-1) (fun d => ⟨I, J, TnQ.rf I, ?_⟩) fun d I1 J1 t => ⟨I1, J1, MnQ.rf I1, ?_⟩
    · rw [r_T_drawn, e_T_drawn, ygR (aT_3 s) (aR_3_2 s), xB_s, yck (La_t sc), s_isTown (d := d + 98) sc x, kI_o, if_neg c1, if_pos rfl]
    · rw [r_M_drawn, e_M_drawn, ygI (bT_88 m), E88 I1 t, w, s_lies (d := d + 98), kI_o, if_neg (show ¬ (0 ≤ x ∧ x ≤ I 88 55 - 1) by omega), if_pos rfl]
  obtain ⟨b4, b5⟩ := b3 x.toNat (by omega) (by omega)
  have c1m : 0 ≤ x ∧ x ≤ I 88 55 - 1 := by omega
  by_cases z0 : y = 0
  · refine Cal.q v hk (I 29 x.toNat) (fun d => ⟨I, J, TnQ.rf I, ?_⟩) fun d I1 J1 t => ⟨I1, J1, MnQ.rf I1, ?_⟩
    · rw [r_T_drawn, e_T_drawn, ygR (aT_3 s) (aR_3_2 s), xB_s, yck (La_t sc), s_isTown (d := d + 98) sc x, kI_o, if_pos c1, if_neg (by omega), if_pos z0, ygR (aT_3 s) (aR_3_2 s), xB_s, ygR (aT_28 s) (aR_28_1 s), xB_s, zAI (i := x.toNat) (aT_29 s) (aL_29 s) (by omega) (by omega)]
    · rw [r_M_drawn, e_M_drawn, ygI (bT_88 m), E88 I1 t, w, s_lies (d := d + 98), kI_o, if_pos c1m, if_neg (by omega), s_lies (d := d + 98), kI_o, if_pos (show (0 : Int) ≤ y ∧ y ≤ 1 by omega), if_neg (by omega), ygR (bT_88 m) (bR_54 m), if_pos z0, xB_s, zAI (i := x.toNat) (bT_117 m) (bL_117 m) (by rw [wr_id (by omega) (by omega)]; omega) (by omega), E117 I1 t, b4]
  by_cases z1 : y = 1
  · refine Cal.q v hk (I 31 x.toNat) (fun d => ⟨I, J, TnQ.rf I, ?_⟩) fun d I1 J1 t => ⟨I1, J1, MnQ.rf I1, ?_⟩
    · rw [r_T_drawn, e_T_drawn, ygR (aT_3 s) (aR_3_2 s), xB_s, yck (La_t sc), s_isTown (d := d + 98) sc x, kI_o, if_pos c1, if_neg (by omega), if_neg z0, if_pos z1, ygR (aT_3 s) (aR_3_2 s), xB_s, ygR (aT_28 s) (aR_28_3 s), xB_s, zAI (i := x.toNat) (aT_31 s) (aL_31 s) (by omega) (by omega)]
    · rw [r_M_drawn, e_M_drawn, ygI (bT_88 m), E88 I1 t, w, s_lies (d := d + 98), kI_o, if_pos c1m, if_neg (by omega), s_lies (d := d + 98), kI_o, if_pos (show (0 : Int) ≤ y ∧ y ≤ 1 by omega), if_neg (by omega), ygR (bT_88 m) (bR_54 m), if_neg z0, xB_s, zAI (i := 7 + x.toNat) (bT_117 m) (bL_117 m) (by rw [wr_id (by omega) (by omega)]; omega) (by omega), E117 I1 t, b5]
  · refine Cal.q v hk (-1) (fun d => ⟨I, J, TnQ.rf I, ?_⟩) fun d I1 J1 t => ⟨I1, J1, MnQ.rf I1, ?_⟩
    · rw [r_T_drawn, e_T_drawn, ygR (aT_3 s) (aR_3_2 s), xB_s, yck (La_t sc), s_isTown (d := d + 98) sc x, kI_o, if_pos c1, if_neg (by omega), if_neg z0, if_neg z1]
    · rw [r_M_drawn, e_M_drawn, ygI (bT_88 m), E88 I1 t, w, s_lies (d := d + 98), kI_o, if_pos c1m, if_neg (by omega), s_lies (d := d + 98), kI_o, if_neg (show ¬ ((0 : Int) ≤ y ∧ y ≤ 1) by omega), if_pos rfl]
end P95
