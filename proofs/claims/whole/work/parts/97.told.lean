/-! Calls that tell: town, road, terms, force, heard, forget (by program, wip/whole/gen97.py) -/
section P97
variable {h : IH} {I I0 I1 I2 I' J : Nat → Nat → Int} {k L d n : Nat} {xs : Nat → Int32} {K : Nat → Int} {LW : Nat → Nat × (Nat → Cls)}
theorem Inv.land (v : Inv L xs k h I) (hk : k < 1000) (c : ∀ b, (b = 0 ∨ b = 1 ∨ (28 ≤ b ∧ b ≤ 50) ∨ b = 83 ∨ b = 85 ∨ b = 87 ∨ b = 89 ∨ b = 91 ∨ b = 92 ∨ b = 94 ∨ b = 95 ∨ 117 ≤ b) → I' b = I b) (e : ∀ i, (i = 6 ∨ i = 13 ∨ i = 14 ∨ i = 47 ∨ i = 55) → I' 88 i = I 88 i) (e3 : I' 3 15 = I' 88 0 ∧ I' 3 16 = I 3 16 ∧ I' 3 17 = I 3 17) (hl : ∃ LW, RL h I' 4 (I' 90) LW ∧ KOk (I' 90) ∧ LwA (I' 90) LW) (hp : IvP I') : Inv L xs (k + 1) h I' := by
  obtain ⟨own, v1, v2, v3, v4, v5, v6, v7, v8, v9⟩ := v
  have ht : ∀ b, 118 ≤ b → I' b = I b := fun b hb => c b (by omega)
  have w7 : IvR I' (k + 1) := by
    obtain ⟨⟨q1, q2, q3⟩, p, b⟩ := v7
    unfold IvR
    rw [c 87 (by omega), c 89 (by omega), e3.2.1, e3.2.2, e 6 (by omega), e 47 (by omega)]
    exact ⟨⟨e3.1, q2, q3⟩, p, fun j hj => by have := b j hj; omega⟩
  exact ⟨own, v1.fr (c _ (by omega)) (c _ (by omega)) (c _ (by omega)), ⟨hl, v2.2⟩, ⟨⟨v3.1.1.fr (c _ (by omega)) (c _ (by omega)) ht, v3.1.2.fr (c _ (by omega)) (c _ (by omega)) ht⟩, v3.2⟩, v4.fr (c _ (by omega)) (c _ (by omega)) (c _ (by omega)) (c _ (by omega)) (c _ (by omega)) (c _ (by omega)) (e 13 (by omega)) (e 14 (by omega)), hp, v6.fr (fun b b1 b2 => c b (by omega)) (c _ (by omega)) (e 55 (by omega)), w7, v8.fr (c _ (by omega)) (c _ (by omega)) ht, v9.s hk⟩
theorem IvP.no (v : IvP I) (e0 : I' 72 0 = 0) (e1 : I' 72 1 = I 72 1) (e31 : I' 88 31 = 0) : IvP I' := by
  obtain ⟨kp, nx, a1, a2, a3, a4, a5, a6⟩ := v
  exact ⟨0, nx, by omega, a2, e0, e1.trans a4, e31, fun i hi => absurd hi (by omega)⟩
theorem RL.fr4 {K : Nat → Int} (r : RL h I 4 K LW) (w : ∀ j x, hR h (4 + 11) j = some x → 118 ≤ x) (c : ∀ b, (4 ≤ b ∧ b ≤ 15) ∨ 118 ≤ b → I' b = I b) : RL h I' 4 K LW := r.tr (fun b b1 b2 => c b (by omega)) rfl fun j x hx b b1 b2 => ⟨rfl, rfl, rfl, c b (by have := w j x hx; omega)⟩
theorem m_many (m : ShM h 88) {x : Int} (e : I 90 183 = x) : rn (d + 1) 160 [iR (some 88)] (st h I J) = some (oI x, st h I J) := by
  rw [s_townMany m]
  show some (oI (I 90 183), st h I J) = _
  rw [e]
theorem ShT_72 (s : ShT h) : ShPs h 72 := s.2.2.2.2.2.2.2.2.2.2.2.2.1
theorem C_town (v : Inv L xs k h I) (hk : k < 1000) (x y : Int) : Cal L xs k h I J 99 164 [iI x, iI y] := by
  obtain ⟨LW, o⟩ := v.now
  have s := v.t
  have m := v.m
  have kk := o.2.2.1
  have hn := kk.1
  by_cases c1 : 0 ≤ x ∧ x ≤ 9
  case neg =>
    have rv : RfV (-1) := by unfold RfV; omega
    refine Cal.r v hk (-1) rv (fun d => ⟨I, J, TnQ.rf I, ?_⟩) fun d I1 J1 t => ⟨refT (-1) I1, J1, MnQ.rf _, ?_⟩
    · rw [r_T_town, e_T_town]
      by_cases c : x < 0
      · rw [if_pos c, yck (aT_3 s), s_refT (d := d + 98) s (x := -1) rv (v.b87 rv).1, kI_o]
      · rw [if_neg c, if_neg (by omega), yck (aT_3 s), s_refT (d := d + 98) s (x := -1) rv (v.b87 rv).1, kI_o]
    · have e90 : refT (-1) I1 90 = I 90 := (refT_n (by omega) (by omega)).trans (t 90 (by omega) (by omega) (by omega) (by omega))
      have e89 : refT (-1) I1 89 = I 89 := (refT_n (by omega) (by omega)).trans (t 89 (by omega) (by omega) (by omega) (by omega))
      rw [r_M_town, e_M_town, s_lies (d := d + 98), kI_o, if_neg c1, if_pos rfl, yck (bT_88 m), s_refM (d := d + 98) m (x := -1) rv (by rw [e89]; exact (v.b87 rv).2), kI_o]
  by_cases c2 : 0 ≤ y ∧ y ≤ 9
  case neg =>
    have rv : RfV (-1) := by unfold RfV; omega
    refine Cal.r v hk (-1) rv (fun d => ⟨I, J, TnQ.rf I, ?_⟩) fun d I1 J1 t => ⟨refT (-1) I1, J1, MnQ.rf _, ?_⟩
    · rw [r_T_town, e_T_town, if_neg (by omega), if_pos c1.2]
      by_cases c : y < 0
      · rw [if_pos c, yck (aT_3 s), s_refT (d := d + 98) s (x := -1) rv (v.b87 rv).1, kI_o]
      · rw [if_neg c, if_neg (by omega), yck (aT_3 s), s_refT (d := d + 98) s (x := -1) rv (v.b87 rv).1, kI_o]
    · have e90 : refT (-1) I1 90 = I 90 := (refT_n (by omega) (by omega)).trans (t 90 (by omega) (by omega) (by omega) (by omega))
      have e89 : refT (-1) I1 89 = I 89 := (refT_n (by omega) (by omega)).trans (t 89 (by omega) (by omega) (by omega) (by omega))
      rw [r_M_town, e_M_town, s_lies (d := d + 98), kI_o, if_pos c1, if_neg (by omega), s_lies (d := d + 98), kI_o, if_neg c2, if_pos rfl, yck (bT_88 m), s_refM (d := d + 98) m (x := -1) rv (by rw [e89]; exact (v.b87 rv).2), kI_o]
  obtain ⟨n, en⟩ : ∃ n : Nat, I 90 183 = (n : Int) := ⟨(I 90 183).toNat, by omega⟩
  have e4 : I 4 0 = (n : Int) := o.2.1.1.trans en
  by_cases c3 : n < 7
  case neg =>
    have rv : RfV (-5) := by unfold RfV; omega
    refine Cal.r v hk (-5) rv (fun d => ⟨I, J, TnQ.rf I, ?_⟩) fun d I1 J1 t => ⟨refT (-5) I1, J1, MnQ.rf _, ?_⟩
    · rw [r_T_town, e_T_town, if_neg (by omega), if_pos c1.2, if_neg (by omega), if_pos c2.2, ygR (aT_3 s) (aR_3_0 s), xB_s, ygIv (aT_4 s) e4, if_neg (by omega), yck (aT_3 s), s_refT (d := d + 98) s (x := -5) rv (v.b87 rv).1, kI_o]
    · have e90 : refT (-5) I1 90 = I 90 := (refT_n (by omega) (by omega)).trans (t 90 (by omega) (by omega) (by omega) (by omega))
      have e89 : refT (-5) I1 89 = I 89 := (refT_n (by omega) (by omega)).trans (t 89 (by omega) (by omega) (by omega) (by omega))
      rw [r_M_town, e_M_town, s_lies (d := d + 98), kI_o, if_pos c1, if_neg (by omega), s_lies (d := d + 98), kI_o, if_pos c2, if_neg (by omega), yck (bT_88 m), m_many (d := d + 98) m (x := (n : Int)) (by rw [e90]; exact en), kI_o, if_pos (by omega), yck (bT_88 m), s_refM (d := d + 98) m (x := -5) rv (by rw [e89]; exact (v.b87 rv).2), kI_o]
  refine Cal.of v fun d => ?_
  have e4' : ∀ a b, (up (up I 7 a x) 8 b y) 4 0 = (n : Int) := fun a b => by
    rw [up_na (by omega), up_na (by omega)]
    exact e4
  have hT : rn (d + 100) 99 [iR (some 3), iI x, iI y] (st h I J) = some (oI (n : Int), st h (up (up (up (up (up I 7 n x) 8 n y) 4 0 ((n : Int) + 1)) 72 0 0) 3 15 0) J) := by
    rw [r_T_town, e_T_town, if_neg (by omega), if_pos c1.2, if_neg (by omega), if_pos c2.2, ygR (aT_3 s) (aR_3_0 s), xB_s, ygIv (aT_4 s) e4, if_pos (by omega), ygR (aT_3 s) (aR_3_0 s), xB_s, ygIv (aT_4 s) e4, ygR (aT_3 s) (aR_3_0 s), xB_s, ygR (aT_4 s) (aR_4_3 s), xB_s, zSI (i := n) (aT_7 s) (by omega) (aL_7 s) rfl c3, ygR (aT_3 s) (aR_3_0 s), xB_s, ygR (aT_4 s) (aR_4_4 s), xB_s, zSI (i := n) (aT_8 s) (by omega) (aL_8 s) rfl c3, ygR (aT_3 s) (aR_3_0 s), xB_s, ygIv (aT_4 s) (e4' n n), xB_s, ypI (aT_4 s) (by omega), ygR (aT_3 s) (aR_3_9 s), xB_s, yck (aT_72 s), s_pastClear (d := d + 98) (ShT_72 s), kV_o, yck (aT_3 s), s_taken (d := d + 98) s, kI_o, wr_id (by omega) (by omega)]
  generalize hI1 : (up (up (up (up (up I 7 n x) 8 n y) 4 0 ((n : Int) + 1)) 72 0 0) 3 15 0) = I1 at hT
  have f1 : ∀ b, b ≠ 3 → b ≠ 4 → b ≠ 7 → b ≠ 8 → b ≠ 72 → I1 b = I b := fun b q1 q2 q3 q4 q5 => by rw [← hI1, up_na q1, up_na q5, up_na q2, up_na q4, up_na q3]
  have e90 : I1 90 = I 90 := f1 90 (by omega) (by omega) (by omega) (by omega) (by omega)
  have hM : rn (d + 100) 164 [iR (some 88), iI x, iI y] (st h I1 J) = some (oI (n : Int), st h (up (up (up (up (up (up I1 90 n n) 90 (7 + n) x) 90 (113 + n) y) 90 183 ((n : Int) + 1)) 88 31 0) 88 0 0) J) := by
    rw [r_M_town, e_M_town, s_lies (d := d + 98), kI_o, if_pos c1, if_neg (by omega), s_lies (d := d + 98), kI_o, if_pos c2, if_neg (by omega), yck (bT_88 m), m_many (d := d + 98) m (x := (n : Int)) (by rw [e90]; exact en), kI_o, if_neg (by omega), ygR (bT_88 m) (bR_2 m), xB_s, zSI (i := n) (bT_90 m) (by omega) (bL_90 m) (by rw [wr_id (by omega) (by omega)]; omega) (by omega), ygR (bT_88 m) (bR_2 m), xB_s, zSI (i := 7 + n) (bT_90 m) (by omega) (bL_90 m) (by rw [wr_id (by omega) (by omega)]; omega) (by omega), ygR (bT_88 m) (bR_2 m), xB_s, zSI (i := 113 + n) (bT_90 m) (by omega) (bL_90 m) (by rw [wr_id (by omega) (by omega)]; omega) (by omega), ygR (bT_88 m) (bR_2 m), xB_s, yaIv (i := 183) (j := 183) (x := (n : Int)) (bT_90 m) (bL_90 m) rfl (by omega) (by rw [up_ni (by omega), up_ni (by omega), up_ni (by omega), e90, en]), xB_s, zSI (i := 183) (j := 183) (bT_90 m) (by omega) (bL_90 m) rfl (by omega), yck (bT_88 m), s_settled (d := d + 97) m, kI_o, wr_id (x := (n : Int) + 1) (by omega) (by omega)]
  generalize hI2 : (up (up (up (up (up (up I1 90 n n) 90 (7 + n) x) 90 (113 + n) y) 90 183 ((n : Int) + 1)) 88 31 0) 88 0 0) = I2 at hM
  have f2 : ∀ b, b ≠ 88 → b ≠ 90 → I2 b = I1 b := fun b q1 q2 => by rw [← hI2, up_na q1, up_na q1, up_na q2, up_na q2, up_na q2, up_na q2]
  have g2 : ∀ i, I2 88 i = if i = 0 then 0 else if i = 31 then 0 else I 88 i := fun i => by rw [← hI2, up_at, up_at, up_na (by omega), up_na (by omega), up_na (by omega), up_na (by omega), f1 88 (by omega) (by omega) (by omega) (by omega) (by omega)]
  have g3 : ∀ i, I2 3 i = if i = 15 then 0 else I 3 i := fun i => by rw [f2 3 (by omega) (by omega), ← hI1, up_at, up_na (by omega), up_na (by omega), up_na (by omega), up_na (by omega)]
  have g72 : ∀ i, I2 72 i = if i = 0 then 0 else I 72 i := fun i => by rw [f2 72 (by omega) (by omega), ← hI1, up_na (by omega), up_at, up_na (by omega), up_na (by omega), up_na (by omega)]
  have g90 : I2 90 = townF (I 90) n x y := by
    rw [← hI2, up_na (by omega), up_na (by omega), up_F, up_F, up_F, up_F, e90]
    rfl
  refine ⟨n, I1, J, I2, J, hT, hM, f1 0 (by omega) (by omega) (by omega) (by omega) (by omega), v.land hk (fun b hb => (f2 b (by omega) (by omega)).trans (f1 b (by omega) (by omega) (by omega) (by omega) (by omega))) (fun i hi => by rw [g2, if_neg (by omega), if_neg (by omega)]) ⟨by rw [g2, g3, if_pos rfl, if_pos rfl], by rw [g3, if_neg (by omega)], by rw [g3, if_neg (by omega)]⟩ ⟨LW, ?_, ?_, ?_⟩ (v.p.no (by rw [g72, if_pos rfl]) (by rw [g72, if_neg (by omega)]) (by rw [g2, if_neg (by omega), if_pos rfl]))⟩
  · rw [g90]
    exact (o.2.1.town kk en c3 (by omega) c1 c2).fr4 o.2.2.2.2 fun b hb => by rw [f2 b (by omega) (by omega), ← hI1, up_na (by omega), up_na (by omega)]
  · rw [g90]
    exact townF_ok kk en c3 c1 c2
  · rw [g90]
    exact o.2.2.2.1.cg kk fun i i1 i2 => townF_o c3 x y (by omega) (by omega) (by omega) (by omega)
theorem C_road (v : Inv L xs k h I) (hk : k < 1000) (x y z : Int) : Cal L xs k h I J 102 170 [iI x, iI y, iI z] := by
  obtain ⟨LW, o⟩ := v.now
  have s := v.t
  have m := v.m
  have kk := o.2.2.1
  have hn := kk.1
  by_cases c1 : 0 ≤ z ∧ z ≤ 99
  case neg =>
    have rv : RfV (-1) := by unfold RfV; omega
    refine Cal.r v hk (-1) rv (fun d => ⟨I, J, TnQ.rf I, ?_⟩) fun d I1 J1 t => ⟨refT (-1) I1, J1, MnQ.rf _, ?_⟩
    · rw [r_T_road, e_T_road]
      by_cases c : z < 0
      · rw [if_pos c, yck (aT_3 s), s_refT (d := d + 98) s (x := -1) rv (v.b87 rv).1, kI_o]
      · rw [if_neg c, if_neg (by omega), yck (aT_3 s), s_refT (d := d + 98) s (x := -1) rv (v.b87 rv).1, kI_o]
    · have e90 : refT (-1) I1 90 = I 90 := (refT_n (by omega) (by omega)).trans (t 90 (by omega) (by omega) (by omega) (by omega))
      have e89 : refT (-1) I1 89 = I 89 := (refT_n (by omega) (by omega)).trans (t 89 (by omega) (by omega) (by omega) (by omega))
      rw [r_M_road, e_M_road]
      by_cases c : x = y
      · rw [if_pos c, yck (bT_88 m), s_refM (d := d + 98) m (x := -1) rv (by rw [e89]; exact (v.b87 rv).2), kI_o]
      · rw [if_neg c, s_lies (d := d + 98), kI_o, if_neg c1, if_pos rfl, yck (bT_88 m), s_refM (d := d + 98) m (x := -1) rv (by rw [e89]; exact (v.b87 rv).2), kI_o]
  by_cases c2 : x = y
  · have c2' := c2
    have rv : RfV (-1) := by unfold RfV; omega
    refine Cal.r v hk (-1) rv (fun d => ⟨I, J, TnQ.rf I, ?_⟩) fun d I1 J1 t => ⟨refT (-1) I1, J1, MnQ.rf _, ?_⟩
    · rw [r_T_road, e_T_road, if_neg (by omega), if_pos c1.2, if_pos c2, yck (aT_3 s), s_refT (d := d + 98) s (x := -1) rv (v.b87 rv).1, kI_o]
    · have e90 : refT (-1) I1 90 = I 90 := (refT_n (by omega) (by omega)).trans (t 90 (by omega) (by omega) (by omega) (by omega))
      have e89 : refT (-1) I1 89 = I 89 := (refT_n (by omega) (by omega)).trans (t 89 (by omega) (by omega) (by omega) (by omega))
      rw [r_M_road, e_M_road, if_pos c2, yck (bT_88 m), s_refM (d := d + 98) m (x := -1) rv (by rw [e89]; exact (v.b87 rv).2), kI_o]
  by_cases c3 : (0 ≤ x ∧ x < I 90 183) ∧ (0 ≤ y ∧ y < I 90 183) ∧ x ≠ y
  case neg =>
    have rv : RfV (-2) := by unfold RfV; omega
    refine Cal.r v hk (-2) rv (fun d => ⟨I, J, TnQ.rf I, ?_⟩) fun d I1 J1 t => ⟨refT (-2) I1, J1, MnQ.rf _, ?_⟩
    · rw [r_T_road, e_T_road, if_neg (by omega), if_pos c1.2, if_neg c2, ygR (aT_3 s) (aR_3_0 s), xB_s, yck (aT_4 s), t_isT (d := d + 98) o x, kI_o]
      by_cases c4 : 0 ≤ x ∧ x < I 90 183
      · rw [if_pos c4, if_neg (by omega), ygR (aT_3 s) (aR_3_0 s), xB_s, yck (aT_4 s), t_isT (d := d + 98) o y, kI_o, if_neg (show ¬ (0 ≤ y ∧ y < I 90 183) from fun z => c3 ⟨c4, z, c2⟩), if_pos rfl, yck (aT_3 s), s_refT (d := d + 98) s (x := -2) rv (v.b87 rv).1, kI_o]
      · rw [if_neg c4, if_pos rfl, yck (aT_3 s), s_refT (d := d + 98) s (x := -2) rv (v.b87 rv).1, kI_o]
    · have e90 : refT (-2) I1 90 = I 90 := (refT_n (by omega) (by omega)).trans (t 90 (by omega) (by omega) (by omega) (by omega))
      have e89 : refT (-2) I1 89 = I 89 := (refT_n (by omega) (by omega)).trans (t 89 (by omega) (by omega) (by omega) (by omega))
      rw [r_M_road, e_M_road, if_neg c2, s_lies (d := d + 98), kI_o, if_pos c1, if_neg (by omega), yck (bT_88 m), m_two (d := d + 96) m x y e90 hn, kI_o, if_neg c3, if_pos rfl, yck (bT_88 m), s_refM (d := d + 98) m (x := -2) rv (by rw [e89]; exact (v.b87 rv).2), kI_o]
  obtain ⟨c4, c5, -⟩ := id c3
  obtain ⟨x, rfl⟩ : ∃ x' : Nat, x = (x' : Int) := ⟨x.toNat, by omega⟩
  obtain ⟨y, rfl⟩ : ∃ y' : Nat, y = (y' : Int) := ⟨y.toNat, by omega⟩
  refine Cal.of v fun d => ?_
  have hT : rn (d + 100) 102 [iR (some 3), iI x, iI y, iI z] (st h I J) = some (oI (milesK (I 90) x y), st h (up (up (landRoad I 4 x y z) 72 0 0) 3 15 0) J) := by
    rw [r_T_road, e_T_road, if_neg (by omega), if_pos c1.2, if_neg c2, ygR (aT_3 s) (aR_3_0 s), xB_s, yck (aT_4 s), t_isT (d := d + 98) o x, kI_o, if_pos c4, if_neg (by omega), ygR (aT_3 s) (aR_3_0 s), xB_s, yck (aT_4 s), t_isT (d := d + 98) o y, kI_o, if_pos c5, if_neg (by omega), ygR (aT_3 s) (aR_3_0 s), xB_s, yck (aT_4 s), t_miles (d := d + 98) o (by omega) (by omega), kI_o, ygR (aT_3 s) (aR_3_0 s), xB_s, yck (aT_4 s), s_setRoad (d := d + 98) (ShT_4 s) (by omega) (by omega), kV_o, ygR (aT_3 s) (aR_3_9 s), xB_s, yck (aT_72 s), s_pastClear (d := d + 98) (ShT_72 s), kV_o, yck (aT_3 s), s_taken (d := d + 98) s, kI_o]
  generalize hI1 : (up (up (landRoad I 4 x y z) 72 0 0) 3 15 0) = I1 at hT
  have f1 : ∀ b, b ≠ 3 → b ≠ 10 → b ≠ 11 → b ≠ 72 → I1 b = I b := fun b q1 q2 q3 q4 => by rw [← hI1, up_na q1, up_na q4, landRoad_o z (by omega) (by omega)]
  have e90 : I1 90 = I 90 := f1 90 (by omega) (by omega) (by omega) (by omega)
  have hM : rn (d + 100) 170 [iR (some 88), iI x, iI y, iI z] (st h I1 J) = some (oI (milesK (I 90) x y), st h (up (up (modRoad I1 88 x y z) 88 31 0) 88 0 0) J) := by
    rw [r_M_road, e_M_road, if_neg c2, s_lies (d := d + 98), kI_o, if_pos c1, if_neg (by omega), yck (bT_88 m), m_two (d := d + 96) m x y e90 hn, kI_o, if_pos c3, if_neg (by omega), yck (bT_88 m), m_miles (d := d + 97) m e90 (by omega) (by omega), kI_o, yck (bT_88 m), s_laysRoad (d := d + 97) m (by omega) (by omega), kV_o, yck (bT_88 m), s_settled (d := d + 97) m, kI_o]
  generalize hI2 : (up (up (modRoad I1 88 x y z) 88 31 0) 88 0 0) = I2 at hM
  have f2 : ∀ b, b ≠ 88 → b ≠ 90 → I2 b = I1 b := fun b q1 q2 => by rw [← hI2, up_na q1, up_na q1, modRoad_o q2]
  have g2 : ∀ i, I2 88 i = if i = 0 then 0 else if i = 31 then 0 else I 88 i := fun i => by rw [← hI2, up_at, up_at, modRoad_o (by omega), f1 88 (by omega) (by omega) (by omega) (by omega)]
  have g3 : ∀ i, I2 3 i = if i = 15 then 0 else I 3 i := fun i => by rw [f2 3 (by omega) (by omega), ← hI1, up_at, up_na (by omega), landRoad_o z (by omega) (by omega)]
  have g72 : ∀ i, I2 72 i = if i = 0 then 0 else I 72 i := fun i => by rw [f2 72 (by omega) (by omega), ← hI1, up_na (by omega), up_at, landRoad_o z (by omega) (by omega)]
  have g90 : I2 90 = roadF (I 90) x y z := by
    rw [← hI2, up_na (by omega), up_na (by omega), modRoad_K, e90]
  have hxy : x ≠ y := fun q => c2 (by rw [q])
  refine ⟨_, I1, J, I2, J, hT, hM, f1 0 (by omega) (by omega) (by omega) (by omega), v.land hk (fun b hb => (f2 b (by omega) (by omega)).trans (f1 b (by omega) (by omega) (by omega) (by omega))) (fun i hi => by rw [g2, if_neg (by omega), if_neg (by omega)]) ⟨by rw [g2, g3, if_pos rfl, if_pos rfl], by rw [g3, if_neg (by omega)], by rw [g3, if_neg (by omega)]⟩ ⟨LW, ?_, ?_, ?_⟩ (v.p.no (by rw [g72, if_pos rfl]) (by rw [g72, if_neg (by omega)]) (by rw [g2, if_neg (by omega), if_pos rfl]))⟩
  · rw [g90]
    exact (o.2.1.road kk (by omega) (by omega) (by omega) hxy c1).fr4 o.2.2.2.2 fun b hb => by rw [f2 b (by omega) (by omega), ← hI1, up_na (by omega), up_na (by omega)]
  · rw [g90]
    exact roadF_ok kk (by omega) (by omega) hxy c1
  · rw [g90]
    exact o.2.2.2.1.cg kk fun i i1 i2 => roadF_of (by omega) (by omega) z (by omega)
end P97
