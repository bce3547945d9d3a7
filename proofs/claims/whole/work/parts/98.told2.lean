/-! Calls that tell: terms, force, heard, forget, end, compare (by program, wip/whole/gen98.py) -/
section P98
variable {h : IH} {I I0 I1 I2 I' J : Nat → Nat → Int} {k L d n : Nat} {xs : Nat → Int32} {K : Nat → Int} {LW : Nat → Nat × (Nat → Cls)}
def tmi (x : Int) : Nat := if x = 0 then 112 else if x = 1 then 181 else 182
theorem s_termAt (h : IH) (x : Int) : rn (d + 1) 173 [iI x] h = some (oI (tmi x : Nat), h) := by
  rw [r_M_termAt, e_M_termAt]
  unfold tmi
  (repeat' split) <;> rfl
theorem s_isTerm (h : IH) (x y : Int) : rn (d + 2) 172 [iI x, iI y] h = some (oI (if (0 ≤ x ∧ x < 3) ∧ 0 ≤ y ∧ y ≤ z0M x.toNat then 1 else 0), h) := by
  rw [r_M_isTerm, e_M_isTerm]
  by_cases c0 : x = 0
  · subst c0
    rw [if_pos rfl, s_lies, kI_o]
    by_cases c : 0 ≤ y ∧ y ≤ 999
    · rw [if_pos c, xZ_1, if_pos ⟨⟨by omega, by omega⟩, c.1, by show y ≤ 999; omega⟩]
    · rw [if_neg c, xZ_0, if_neg (fun z => c ⟨z.2.1, z.2.2⟩)]
  rw [if_neg c0]
  by_cases c1 : x = 1
  · subst c1
    rw [if_pos rfl, s_lies, kI_o]
    by_cases c : 0 ≤ y ∧ y ≤ 10
    · rw [if_pos c, xZ_1, if_pos ⟨⟨by omega, by omega⟩, c.1, by show y ≤ 10; omega⟩]
    · rw [if_neg c, xZ_0, if_neg (fun z => c ⟨z.2.1, z.2.2⟩)]
  rw [if_neg c1]
  by_cases c2 : x = 2
  · subst c2
    rw [if_pos rfl, s_lies, kI_o]
    by_cases c : 0 ≤ y ∧ y ≤ 9
    · rw [if_pos c, xZ_1, if_pos ⟨⟨by omega, by omega⟩, c.1, by show y ≤ 9; omega⟩]
    · rw [if_neg c, xZ_0, if_neg (fun z => c ⟨z.2.1, z.2.2⟩)]
  · rw [if_neg c2, xZ_0, if_neg (fun z => by have := z.1; omega)]
theorem Inv.z0 (v : Inv L xs k h I) : I 1 = z0M := by obtain ⟨own, v1, v2⟩ := v; exact v1.2.2.2.1
theorem C_terms (v : Inv L xs k h I) (hk : k < 1000) (x y : Int) : Cal L xs k h I J 104 174 [iI x, iI y] := by
  obtain ⟨LW, o⟩ := v.now
  have s := v.t
  have m := v.m
  have kk := o.2.2.1
  have hn := kk.1
  have e1 := v.z0
  by_cases c1 : (0 ≤ x ∧ x < 3) ∧ 0 ≤ y ∧ y ≤ z0M x.toNat
  case neg =>
    have rv : RfV (-1) := by unfold RfV; omega
    refine Cal.r v hk (-1) rv (fun d => ⟨I, J, TnQ.rf I, ?_⟩) fun d I1 J1 t => ⟨refT (-1) I1, J1, MnQ.rf _, ?_⟩
    · rw [r_T_terms, e_T_terms]
      by_cases q : x < 0
      · rw [if_pos q, yck (aT_3 s), s_refT (d := d + 98) s (x := -1) rv (v.b87 rv).1, kI_o]
      rw [if_neg q, yle (show hT h 1 < 6 by rw [aT_1 s]; decide) (aL_1 s) (by omega), show ((3 : Nat) : Int) = 3 from rfl]
      by_cases q2 : x < 3
      · rw [if_pos q2]
        by_cases q3 : y < 0
        · rw [if_pos q3, yck (aT_3 s), s_refT (d := d + 98) s (x := -1) rv (v.b87 rv).1, kI_o]
        rw [if_neg q3, yaIv (i := x.toNat) (x := z0M x.toNat) (aT_1 s) (aL_1 s) (by omega) (by omega) (by rw [e1]), if_neg (fun z => c1 ⟨⟨by omega, q2⟩, by omega, z⟩), yck (aT_3 s), s_refT (d := d + 98) s (x := -1) rv (v.b87 rv).1, kI_o]
      · rw [if_neg q2, yck (aT_3 s), s_refT (d := d + 98) s (x := -1) rv (v.b87 rv).1, kI_o]
    · have e90 : refT (-1) I1 90 = I 90 := (refT_n (by omega) (by omega)).trans (t 90 (by omega) (by omega) (by omega) (by omega))
      have e89 : refT (-1) I1 89 = I 89 := (refT_n (by omega) (by omega)).trans (t 89 (by omega) (by omega) (by omega) (by omega))
      rw [r_M_terms, e_M_terms, s_isTerm (d := d + 97), kI_o, if_neg c1, if_pos rfl, yck (bT_88 m), s_refM (d := d + 98) m (x := -1) rv (by rw [e89]; exact (v.b87 rv).2), kI_o]
  obtain ⟨⟨c2, c3⟩, c4, c5⟩ := id c1
  obtain ⟨w, rfl⟩ : ∃ w : Nat, x = (w : Int) := ⟨x.toNat, by omega⟩
  rw [Int.toNat_natCast] at c5
  have hi : (w = 0 ∧ tmi w = 112 ∧ 0 ≤ y ∧ y ≤ 999) ∨ (w = 1 ∧ tmi w = 181 ∧ 0 ≤ y ∧ y ≤ 10) ∨ (w = 2 ∧ tmi w = 182 ∧ 0 ≤ y ∧ y ≤ 9) := by
    have : w = 0 ∨ w = 1 ∨ w = 2 := by omega
    rcases this with rfl | rfl | rfl
    · exact Or.inl ⟨rfl, rfl, c4, c5⟩
    · exact Or.inr (Or.inl ⟨rfl, rfl, c4, c5⟩)
    · exact Or.inr (Or.inr ⟨rfl, rfl, c4, c5⟩)
  have ew : I 12 w = I 90 (tmi w) := by
    have r6 := o.2.1.2.2.2.1
    rcases hi with ⟨rfl, e, -⟩ | ⟨rfl, e, -⟩ | ⟨rfl, e, -⟩
    · rw [e]; exact r6.1
    · rw [e]; exact r6.2.1
    · rw [e]; exact r6.2.2
  have ht : tmi w < 183 ∧ 112 ≤ tmi w := by omega
  refine Cal.of v fun d => ?_
  have hT : rn (d + 100) 104 [iR (some 3), iI w, iI y] (st h I J) = some (oI (I 90 (tmi w)), st h (up (up (up I 12 w y) 72 0 0) 3 15 0) J) := by
    rw [r_T_terms, e_T_terms, if_neg (by omega), yle (show hT h 1 < 6 by rw [aT_1 s]; decide) (aL_1 s) (by omega), show ((3 : Nat) : Int) = 3 from rfl, if_pos c3, if_neg (by omega), yaIv (i := w) (x := z0M w) (aT_1 s) (aL_1 s) rfl (by omega) (by rw [e1]), if_pos c5, ygR (aT_3 s) (aR_3_0 s), xB_s, ygR (aT_4 s) (aR_4_8 s), xB_s, yaIv (i := w) (aT_12 s) (aL_12 s) rfl (by omega) ew, ygR (aT_3 s) (aR_3_0 s), xB_s, ygR (aT_4 s) (aR_4_8 s), xB_s, zSI (i := w) (aT_12 s) (by omega) (aL_12 s) rfl (by omega), ygR (aT_3 s) (aR_3_9 s), xB_s, yck (aT_72 s), s_pastClear (d := d + 98) (ShT_72 s), kV_o, yck (aT_3 s), s_taken (d := d + 98) s, kI_o]
  generalize hI1 : (up (up (up I 12 w y) 72 0 0) 3 15 0) = I1 at hT
  have f1 : ∀ b, b ≠ 3 → b ≠ 12 → b ≠ 72 → I1 b = I b := fun b q1 q2 q3 => by rw [← hI1, up_na q1, up_na q3, up_na q2]
  have e90 : I1 90 = I 90 := f1 90 (by omega) (by omega) (by omega)
  have hM : rn (d + 100) 174 [iR (some 88), iI w, iI y] (st h I1 J) = some (oI (I 90 (tmi w)), st h (up (up (up I1 90 (tmi w) y) 88 31 0) 88 0 0) J) := by
    rw [r_M_terms, e_M_terms, s_isTerm (d := d + 97), kI_o, if_pos (show (0 ≤ (w : Int) ∧ (w : Int) < 3) ∧ 0 ≤ y ∧ y ≤ z0M (w : Int).toNat from ⟨⟨c2, c3⟩, c4, by rw [Int.toNat_natCast]; exact c5⟩), if_neg (by omega), ygR (bT_88 m) (bR_2 m), s_termAt (d := d + 98), kI_o, xB_s, yaIv (i := tmi w) (bT_90 m) (bL_90 m) rfl (by omega) (by rw [e90]), ygR (bT_88 m) (bR_2 m), s_termAt (d := d + 98), kI_o, xB_s, zSI (i := tmi w) (bT_90 m) (by omega) (bL_90 m) rfl (by omega), yck (bT_88 m), s_settled (d := d + 97) m, kI_o]
  generalize hI2 : (up (up (up I1 90 (tmi w) y) 88 31 0) 88 0 0) = I2 at hM
  have f2 : ∀ b, b ≠ 88 → b ≠ 90 → I2 b = I1 b := fun b q1 q2 => by rw [← hI2, up_na q1, up_na q1, up_na q2]
  have g2 : ∀ i, I2 88 i = if i = 0 then 0 else if i = 31 then 0 else I 88 i := fun i => by rw [← hI2, up_at, up_at, up_na (by omega), f1 88 (by omega) (by omega) (by omega)]
  have g3 : ∀ i, I2 3 i = if i = 15 then 0 else I 3 i := fun i => by rw [f2 3 (by omega) (by omega), ← hI1, up_at, up_na (by omega), up_na (by omega)]
  have g72 : ∀ i, I2 72 i = if i = 0 then 0 else I 72 i := fun i => by rw [f2 72 (by omega) (by omega), ← hI1, up_na (by omega), up_at, up_na (by omega)]
  have g90 : I2 90 = upF (I 90) (tmi w) y := by
    rw [← hI2, up_na (by omega), up_na (by omega), up_F, e90]
  refine ⟨_, I1, J, I2, J, hT, hM, f1 0 (by omega) (by omega) (by omega), v.land hk (fun b hb => (f2 b (by omega) (by omega)).trans (f1 b (by omega) (by omega) (by omega))) (fun i hi => by rw [g2, if_neg (by omega), if_neg (by omega)]) ⟨by rw [g2, g3, if_pos rfl, if_pos rfl], by rw [g3, if_neg (by omega)], by rw [g3, if_neg (by omega)]⟩ ⟨LW, ?_, ?_, ?_⟩ (v.p.no (by rw [g72, if_pos rfl]) (by rw [g72, if_neg (by omega)]) (by rw [g2, if_neg (by omega), if_pos rfl]))⟩
  · rw [g90]
    exact (o.2.1.term kk (by omega) hi).fr4 o.2.2.2.2 fun b hb => by rw [f2 b (by omega) (by omega), ← hI1, up_na (by omega), up_na (by omega)]
  · rw [g90]
    exact kk.one (by omega)
  · rw [g90]
    exact o.2.2.2.1.cg kk fun i i1 i2 => upF_n (by omega)
theorem m_isLaw (m : ShM h 88) (x : Int) (e : I 90 = K) (k : KOk K) : rn (d + 2) 205 [iR (some 88), iI x] (st h I J) = some (oI (if -1 ≤ x ∧ x < K 185 then 1 else 0), st h I J) := by
  have h1 := k.2.2.2.2.2.1
  rw [r_M_isLaw, e_M_isLaw, ygR (bT_88 m) (bR_2 m), xB_s, yaIv (i := 185) (j := 185) (x := K 185) (bT_90 m) (bL_90 m) rfl (by omega) (by rw [e]), wr_id (by omega) (by omega), s_lies, kI_o]
  by_cases c : -1 ≤ x ∧ x < K 185
  · rw [if_pos c, if_pos (show -1 ≤ x ∧ x ≤ K 185 - 1 by omega), xZ_1]
  · rw [if_neg c, if_neg (show ¬ (-1 ≤ x ∧ x ≤ K 185 - 1) by omega), xZ_0]
theorem C_force (v : Inv L xs k h I) (hk : k < 1000) (x : Int) : Cal L xs k h I J 113 206 [iI x] := by
  obtain ⟨LW, o⟩ := v.now
  have s := v.t
  have m := v.m
  have kk := o.2.2.1
  have k1 := kk.2.2.2.2.2.1
  have e13 : I 4 13 = I 90 185 := o.2.1.2.2.2.2.2.1.1
  have e14 : I 4 14 = I 90 186 := o.2.1.2.2.2.2.2.1.2.1
  by_cases c1 : -1 ≤ x ∧ x < I 90 185
  case neg =>
    have rv : RfV (-2) := by unfold RfV; omega
    refine Cal.r v hk (-2) rv (fun d => ⟨I, J, TnQ.rf I, ?_⟩) fun d I1 J1 t => ⟨refT (-2) I1, J1, MnQ.rf _, ?_⟩
    · rw [r_T_force, e_T_force, if_neg (by omega), ygR (aT_3 s) (aR_3_0 s), xB_s, yck (aT_4 s), s_isLaw (d := d + 98) (ShT_4 s) x, kI_o, if_neg (show ¬ (0 ≤ x ∧ x < I 4 13) by omega), if_pos rfl, yck (aT_3 s), s_refT (d := d + 98) s (x := -2) rv (v.b87 rv).1, kI_o]
    · have e90 : refT (-2) I1 90 = I 90 := (refT_n (by omega) (by omega)).trans (t 90 (by omega) (by omega) (by omega) (by omega))
      have e89 : refT (-2) I1 89 = I 89 := (refT_n (by omega) (by omega)).trans (t 89 (by omega) (by omega) (by omega) (by omega))
      rw [r_M_force, e_M_force, yck (bT_88 m), m_isLaw (d := d + 97) m x e90 kk, kI_o, if_neg c1, if_pos rfl, yck (bT_88 m), s_refM (d := d + 98) m (x := -2) rv (by rw [e89]; exact (v.b87 rv).2), kI_o]
  refine Cal.of v fun d => ?_
  have hT : rn (d + 100) 113 [iR (some 3), iI x] (st h I J) = some (oI (I 90 186), st h (up (up I 4 14 x) 3 15 0) J) := by
    rw [r_T_force, e_T_force]
    by_cases c : x = -1
    · rw [if_pos c, ygR (aT_3 s) (aR_3_0 s), xB_s, ygIv (aT_4 s) e14, ygR (aT_3 s) (aR_3_0 s), xB_s, ypI (aT_4 s) (by omega), yck (aT_3 s), s_taken (d := d + 98) s, kI_o]
    · rw [if_neg c, ygR (aT_3 s) (aR_3_0 s), xB_s, yck (aT_4 s), s_isLaw (d := d + 98) (ShT_4 s) x, kI_o, if_pos (show 0 ≤ x ∧ x < I 4 13 by omega), if_neg (by omega), ygR (aT_3 s) (aR_3_0 s), xB_s, ygIv (aT_4 s) e14, ygR (aT_3 s) (aR_3_0 s), xB_s, ypI (aT_4 s) (by omega), yck (aT_3 s), s_taken (d := d + 98) s, kI_o]
  generalize hI1 : (up (up I 4 14 x) 3 15 0) = I1 at hT
  have f1 : ∀ b, b ≠ 3 → b ≠ 4 → I1 b = I b := fun b q1 q2 => by rw [← hI1, up_na q1, up_na q2]
  have e90 : I1 90 = I 90 := f1 90 (by omega) (by omega)
  have hM : rn (d + 100) 206 [iR (some 88), iI x] (st h I1 J) = some (oI (I 90 186), st h (up (up I1 90 186 x) 88 0 0) J) := by
    rw [r_M_force, e_M_force, yck (bT_88 m), m_isLaw (d := d + 97) m x e90 kk, kI_o, if_pos c1, if_neg (by omega), ygR (bT_88 m) (bR_2 m), xB_s, yaIv (i := 186) (j := 186) (x := I 90 186) (bT_90 m) (bL_90 m) rfl (by omega) (by rw [e90]), ygR (bT_88 m) (bR_2 m), xB_s, zSI (i := 186) (j := 186) (bT_90 m) (by omega) (bL_90 m) rfl (by omega), yck (bT_88 m), s_good (d := d + 98) m, kI_o]
  generalize hI2 : (up (up I1 90 186 x) 88 0 0) = I2 at hM
  have f2 : ∀ b, b ≠ 88 → b ≠ 90 → I2 b = I1 b := fun b q1 q2 => by rw [← hI2, up_na q1, up_na q2]
  have g2 : ∀ i, I2 88 i = if i = 0 then 0 else I 88 i := fun i => by rw [← hI2, up_at, up_na (by omega), f1 88 (by omega) (by omega)]
  have g3 : ∀ i, I2 3 i = if i = 15 then 0 else I 3 i := fun i => by rw [f2 3 (by omega) (by omega), ← hI1, up_at, up_na (by omega)]
  have g90 : I2 90 = upF (I 90) 186 x := by
    rw [← hI2, up_na (by omega), up_F, e90]
  have ff : ∀ b, b ≠ 3 → b ≠ 4 → b ≠ 88 → b ≠ 90 → I2 b = I b := fun b q1 q2 q3 q4 => (f2 b q3 q4).trans (f1 b q1 q2)
  refine ⟨_, I1, J, I2, J, hT, hM, f1 0 (by omega) (by omega), v.land hk (fun b hb => ff b (by omega) (by omega) (by omega) (by omega)) (fun i hi => by rw [g2, if_neg (by omega)]) ⟨by rw [g2, g3, if_pos rfl, if_pos rfl], by rw [g3, if_neg (by omega)], by rw [g3, if_neg (by omega)]⟩ ⟨LW, ?_, ?_, ?_⟩ (v.p.fr (ff 72 (by omega) (by omega) (by omega) (by omega)) (ff 73 (by omega) (by omega) (by omega) (by omega)) (ff 101 (by omega) (by omega) (by omega) (by omega)) (by rw [g90, upF_n (by omega)]) (by rw [g2, if_neg (by omega)]))⟩
  · rw [g90]
    exact (o.2.1.fld kk (by omega) (Or.inl ⟨rfl, rfl, c1⟩)).fr4 o.2.2.2.2 fun b hb => by rw [f2 b (by omega) (by omega), ← hI1, up_na (by omega)]
  · rw [g90]
    exact kk.one (by omega)
  · rw [g90]
    exact o.2.2.2.1.cg kk fun i i1 i2 => upF_n i2
theorem C_forget (v : Inv L xs k h I) (hk : k < 1000) : Cal L xs k h I J 129 271 [] := by
  obtain ⟨LW, o⟩ := v.now
  have s := v.t
  have m := v.m
  have kk := o.2.2.1
  have e11 : I 4 11 = I 90 184 := o.2.1.2.2.2.2.1.1
  refine Cal.of v fun d => ?_
  have hT : rn (d + 100) 129 [iR (some 3)] (st h I J) = some (oI (I 90 184), st h (up I 4 11 0) J) := by
    rw [r_T_forget, e_T_forget, ygR (aT_3 s) (aR_3_0 s), xB_s, ygIv (aT_4 s) e11, ygR (aT_3 s) (aR_3_0 s), xB_s, ypI (aT_4 s) (by omega)]
  generalize hI1 : (up I 4 11 0) = I1 at hT
  have f1 : ∀ b, b ≠ 4 → I1 b = I b := fun b q2 => by rw [← hI1, up_na q2]
  have e90 : I1 90 = I 90 := f1 90 (by omega)
  have hM : rn (d + 100) 271 [iR (some 88)] (st h I1 J) = some (oI (I 90 184), st h (up I1 90 184 0) J) := by
    rw [r_M_forget, e_M_forget, ygR (bT_88 m) (bR_2 m), xB_s, yaIv (i := 184) (j := 184) (x := I 90 184) (bT_90 m) (bL_90 m) rfl (by omega) (by rw [e90]), ygR (bT_88 m) (bR_2 m), xB_s, zSI (i := 184) (j := 184) (bT_90 m) (by omega) (bL_90 m) rfl (by omega)]
  generalize hI2 : (up I1 90 184 0) = I2 at hM
  have f2 : ∀ b, b ≠ 90 → I2 b = I1 b := fun b q2 => by rw [← hI2, up_na q2]
  have ff : ∀ b, b ≠ 4 → b ≠ 90 → I2 b = I b := fun b q1 q2 => (f2 b q2).trans (f1 b q1)
  have g2 : I2 88 = I 88 := ff 88 (by omega) (by omega)
  have g3 : I2 3 = I 3 := ff 3 (by omega) (by omega)
  have g90 : I2 90 = upF (I 90) 184 0 := by
    rw [← hI2, up_F, e90]
  refine ⟨_, I1, J, I2, J, hT, hM, f1 0 (by omega), v.land hk (fun b hb => ff b (by omega) (by omega)) (fun i hi => by rw [g2]) ⟨by rw [g2, g3]; exact v.r.1.1, by rw [g3], by rw [g3]⟩ ⟨LW, ?_, ?_, ?_⟩ (v.p.fr (ff 72 (by omega) (by omega)) (ff 73 (by omega) (by omega)) (ff 101 (by omega) (by omega)) (by rw [g90, upF_n (by omega)]) (by rw [g2]))⟩
  · rw [g90]
    exact (o.2.1.fld kk (by omega) (Or.inr ⟨rfl, rfl, rfl⟩)).fr4 o.2.2.2.2 fun b hb => by rw [f2 b (by omega), ← hI1]
  · rw [g90]
    exact kk.one (by omega)
  · rw [g90]
    exact o.2.2.2.1.cg kk fun i i1 i2 => upF_n (by omega)
theorem C_heard (v : Inv L xs k h I) (hk : k < 1000) (x y : Int) : Cal L xs k h I J 128 270 [iI x, iI y] := by
  obtain ⟨LW, o⟩ := v.now
  have s := v.t
  have m := v.m
  have kk := o.2.2.1
  have hn := kk.1
  have k8 := kk.2.2.2.2.1.1
  by_cases c1 : 0 ≤ y ∧ y ≤ 99
  case neg =>
    have rv : RfV (-1) := by unfold RfV; omega
    refine Cal.r v hk (-1) rv (fun d => ⟨I, J, TnQ.rf I, ?_⟩) fun d I1 J1 t => ⟨refT (-1) I1, J1, MnQ.rf _, ?_⟩
    · rw [r_T_heard, e_T_heard]
      by_cases q : y < 0
      · rw [if_pos q, yck (aT_3 s), s_refT (d := d + 98) s (x := -1) rv (v.b87 rv).1, kI_o]
      · rw [if_neg q, if_neg (by omega), yck (aT_3 s), s_refT (d := d + 98) s (x := -1) rv (v.b87 rv).1, kI_o]
    · have e90 : refT (-1) I1 90 = I 90 := (refT_n (by omega) (by omega)).trans (t 90 (by omega) (by omega) (by omega) (by omega))
      have e89 : refT (-1) I1 89 = I 89 := (refT_n (by omega) (by omega)).trans (t 89 (by omega) (by omega) (by omega) (by omega))
      rw [r_M_heard, e_M_heard, s_lies (d := d + 98), kI_o, if_neg c1, if_pos rfl, yck (bT_88 m), s_refM (d := d + 98) m (x := -1) rv (by rw [e89]; exact (v.b87 rv).2), kI_o]
  by_cases c2 : 0 ≤ x ∧ x < I 90 183
  case neg =>
    have rv : RfV (-2) := by unfold RfV; omega
    refine Cal.r v hk (-2) rv (fun d => ⟨I, J, TnQ.rf I, ?_⟩) fun d I1 J1 t => ⟨refT (-2) I1, J1, MnQ.rf _, ?_⟩
    · rw [r_T_heard, e_T_heard, if_neg (by omega), if_pos c1.2, ygR (aT_3 s) (aR_3_0 s), xB_s, yck (aT_4 s), t_isT (d := d + 98) o x, kI_o, if_neg c2, if_pos rfl, yck (aT_3 s), s_refT (d := d + 98) s (x := -2) rv (v.b87 rv).1, kI_o]
    · have e90 : refT (-2) I1 90 = I 90 := (refT_n (by omega) (by omega)).trans (t 90 (by omega) (by omega) (by omega) (by omega))
      have e89 : refT (-2) I1 89 = I 89 := (refT_n (by omega) (by omega)).trans (t 89 (by omega) (by omega) (by omega) (by omega))
      rw [r_M_heard, e_M_heard, s_lies (d := d + 98), kI_o, if_pos c1, if_neg (by omega), yck (bT_88 m), m_isT (d := d + 97) m x e90 hn, kI_o, if_neg c2, if_pos rfl, yck (bT_88 m), s_refM (d := d + 98) m (x := -2) rv (by rw [e89]; exact (v.b87 rv).2), kI_o]
  obtain ⟨c, ec⟩ : ∃ c : Nat, I 90 184 = (c : Int) := ⟨(I 90 184).toNat, by omega⟩
  have e11 : I 4 11 = (c : Int) := o.2.1.2.2.2.2.1.1.trans ec
  by_cases c3 : c < 6
  case neg =>
    have rv : RfV (-5) := by unfold RfV; omega
    refine Cal.r v hk (-5) rv (fun d => ⟨I, J, TnQ.rf I, ?_⟩) fun d I1 J1 t => ⟨refT (-5) I1, J1, MnQ.rf _, ?_⟩
    · rw [r_T_heard, e_T_heard, if_neg (by omega), if_pos c1.2, ygR (aT_3 s) (aR_3_0 s), xB_s, yck (aT_4 s), t_isT (d := d + 98) o x, kI_o, if_pos c2, if_neg (by omega), ygR (aT_3 s) (aR_3_0 s), xB_s, ygIv (aT_4 s) e11, if_neg (by omega), yck (aT_3 s), s_refT (d := d + 98) s (x := -5) rv (v.b87 rv).1, kI_o]
    · have e90 : refT (-5) I1 90 = I 90 := (refT_n (by omega) (by omega)).trans (t 90 (by omega) (by omega) (by omega) (by omega))
      have e89 : refT (-5) I1 89 = I 89 := (refT_n (by omega) (by omega)).trans (t 89 (by omega) (by omega) (by omega) (by omega))
      rw [r_M_heard, e_M_heard, s_lies (d := d + 98), kI_o, if_pos c1, if_neg (by omega), yck (bT_88 m), m_isT (d := d + 97) m x e90 hn, kI_o, if_pos c2, if_neg (by omega), ygR (bT_88 m) (bR_2 m), xB_s, yaIv (i := 184) (j := 184) (x := (c : Int)) (bT_90 m) (bL_90 m) rfl (by omega) (by rw [e90, ec]), ygR (bT_88 m) (bR_2 m), xB_s, yaIv (i := 184) (j := 184) (x := (c : Int)) (bT_90 m) (bL_90 m) rfl (by omega) (by rw [e90, ec]), if_pos (by omega), yck (bT_88 m), s_refM (d := d + 98) m (x := -5) rv (by rw [e89]; exact (v.b87 rv).2), kI_o]
  refine Cal.of v fun d => ?_
  have hT : rn (d + 100) 128 [iR (some 3), iI x, iI y] (st h I J) = some (oI ((c : Int) + 1), st h (up (up (up (up I 13 c x) 14 c y) 4 11 ((c : Int) + 1)) 3 15 0) J) := by
    rw [r_T_heard, e_T_heard, if_neg (by omega), if_pos c1.2, ygR (aT_3 s) (aR_3_0 s), xB_s, yck (aT_4 s), t_isT (d := d + 98) o x, kI_o, if_pos c2, if_neg (by omega), ygR (aT_3 s) (aR_3_0 s), xB_s, ygIv (aT_4 s) e11, if_pos (by omega), ygR (aT_3 s) (aR_3_0 s), xB_s, ygR (aT_4 s) (aR_4_9 s), ygR (aT_3 s) (aR_3_0 s), xB_s, ygIv (aT_4 s) e11, xB_s, zSI (i := c) (aT_13 s) (by omega) (aL_13 s) rfl c3, ygR (aT_3 s) (aR_3_0 s), xB_s, ygR (aT_4 s) (aR_4_10 s), ygR (aT_3 s) (aR_3_0 s), xB_s, ygIv (x := (c : Int)) (aT_4 s) (by rw [up_na (by omega)]; exact e11), xB_s, zSI (i := c) (aT_14 s) (by omega) (aL_14 s) rfl c3, ygR (aT_3 s) (aR_3_0 s), xB_s, ygIv (x := (c : Int)) (aT_4 s) (by rw [up_na (by omega), up_na (by omega)]; exact e11), xB_s, ypI (aT_4 s) (by omega), wr_id (x := (c : Int) + 1) (by omega) (by omega), ygR (aT_3 s) (aR_3_0 s), xB_s, ygIv (x := (c : Int) + 1) (aT_4 s) (up_eq _ _ _ _), yck (aT_3 s), s_taken (d := d + 98) s, kI_o]
  generalize hI1 : (up (up (up (up I 13 c x) 14 c y) 4 11 ((c : Int) + 1)) 3 15 0) = I1 at hT
  have f1 : ∀ b, b ≠ 3 → b ≠ 4 → b ≠ 13 → b ≠ 14 → I1 b = I b := fun b q1 q2 q3 q4 => by rw [← hI1, up_na q1, up_na q2, up_na q4, up_na q3]
  have e90 : I1 90 = I 90 := f1 90 (by omega) (by omega) (by omega) (by omega)
  have hM : rn (d + 100) 270 [iR (some 88), iI x, iI y] (st h I1 J) = some (oI ((c : Int) + 1), st h (up (up (up (up I1 90 (169 + 2 * c) x) 90 (170 + 2 * c) y) 90 184 ((c : Int) + 1)) 88 0 0) J) := by
    rw [r_M_heard, e_M_heard, s_lies (d := d + 98), kI_o, if_pos c1, if_neg (by omega), yck (bT_88 m), m_isT (d := d + 97) m x e90 hn, kI_o, if_pos c2, if_neg (by omega), ygR (bT_88 m) (bR_2 m), xB_s, yaIv (i := 184) (j := 184) (x := (c : Int)) (bT_90 m) (bL_90 m) rfl (by omega) (by rw [e90, ec]), ygR (bT_88 m) (bR_2 m), xB_s, yaIv (i := 184) (j := 184) (x := (c : Int)) (bT_90 m) (bL_90 m) rfl (by omega) (by rw [e90, ec]), if_neg (by omega), wr_id (x := 2 * (c : Int)) (by omega) (by omega), wr_id (x := 169 + 2 * (c : Int)) (by omega) (by omega), wr_id (x := 169 + 2 * (c : Int) + 1) (by omega) (by omega), ygR (bT_88 m) (bR_2 m), xB_s, zSI (i := 169 + 2 * c) (bT_90 m) (by omega) (bL_90 m) (by omega) (by omega), ygR (bT_88 m) (bR_2 m), xB_s, zSI (i := 170 + 2 * c) (bT_90 m) (by omega) (bL_90 m) (by omega) (by omega), ygR (bT_88 m) (bR_2 m), xB_s, yaIv (i := 184) (j := 184) (x := (c : Int)) (bT_90 m) (bL_90 m) rfl (by omega) (by rw [up_ni (by omega), up_ni (by omega), e90, ec]), xB_s, wr_id (x := (c : Int) + 1) (by omega) (by omega), zSI (i := 184) (j := 184) (bT_90 m) (by omega) (bL_90 m) rfl (by omega), ygR (bT_88 m) (bR_2 m), xB_s, yaIv (i := 184) (j := 184) (x := (c : Int) + 1) (bT_90 m) (bL_90 m) rfl (by omega) (up_eq _ _ _ _), yck (bT_88 m), s_good (d := d + 98) m, kI_o]
  generalize hI2 : (up (up (up (up I1 90 (169 + 2 * c) x) 90 (170 + 2 * c) y) 90 184 ((c : Int) + 1)) 88 0 0) = I2 at hM
  have f2 : ∀ b, b ≠ 88 → b ≠ 90 → I2 b = I1 b := fun b q1 q2 => by rw [← hI2, up_na q1, up_na q2, up_na q2, up_na q2]
  have g2 : ∀ i, I2 88 i = if i = 0 then 0 else I 88 i := fun i => by rw [← hI2, up_at, up_na (by omega), up_na (by omega), up_na (by omega), f1 88 (by omega) (by omega) (by omega) (by omega)]
  have g3 : ∀ i, I2 3 i = if i = 15 then 0 else I 3 i := fun i => by rw [f2 3 (by omega) (by omega), ← hI1, up_at, up_na (by omega), up_na (by omega), up_na (by omega)]
  have g90 : I2 90 = heardF (I 90) c x y := by
    rw [← hI2, up_na (by omega), up_F, up_F, up_F, e90]
    rfl
  have ff : ∀ b, b ≠ 3 → b ≠ 4 → b ≠ 13 → b ≠ 14 → b ≠ 88 → b ≠ 90 → I2 b = I b := fun b q1 q2 q3 q4 q5 q6 => (f2 b q5 q6).trans (f1 b q1 q2 q3 q4)
  refine ⟨_, I1, J, I2, J, hT, hM, f1 0 (by omega) (by omega) (by omega) (by omega), v.land hk (fun b hb => ff b (by omega) (by omega) (by omega) (by omega) (by omega) (by omega)) (fun i hi => by rw [g2, if_neg (by omega)]) ⟨by rw [g2, g3, if_pos rfl, if_pos rfl], by rw [g3, if_neg (by omega)], by rw [g3, if_neg (by omega)]⟩ ⟨LW, ?_, ?_, ?_⟩ (v.p.fr (ff 72 (by omega) (by omega) (by omega) (by omega) (by omega) (by omega)) (ff 73 (by omega) (by omega) (by omega) (by omega) (by omega) (by omega)) (ff 101 (by omega) (by omega) (by omega) (by omega) (by omega) (by omega)) (by rw [g90, heardF_o c3 x y (by omega) (by omega)]) (by rw [g2, if_neg (by omega)]))⟩
  · rw [g90]
    exact (o.2.1.hear kk (by omega) ec c3 c2 c1).fr4 o.2.2.2.2 fun b hb => by rw [f2 b (by omega) (by omega), ← hI1, up_na (by omega)]
  · rw [g90]
    exact heardF_ok kk ec c3 c2 c1
  · rw [g90]
    exact o.2.2.2.1.cg kk fun i i1 i2 => heardF_o c3 x y (by omega) (by omega)
theorem likeV_up (w : Option Nat) (hw : ∀ x, w = some x → 118 ≤ x) (i : Nat) (z t u : Int) : likeV (up I 4 i z) 4 w t u = likeV I 4 w t u := by
  have e : ∀ b, b ≠ 4 → (up I 4 i z) b = I b := fun b q => up_na q
  cases w with
  | none =>
    show (up I 4 i z) (4 + 3) u.toNat = I (4 + 3) u.toNat
    rw [e _ (by omega)]
  | some x =>
    have hx := hw x rfl
    have ew : ∀ t s p, wordsOf (up I 4 i z) 4 t s p = wordsOf I 4 t s p := fun t s p => by
      funext q
      unfold wordsOf
      rw [e (4 + 3) (by omega), e (4 + 4) (by omega), e (4 + 5) (by omega), e (4 + 6) (by omega), e (4 + 8) (by omega)]
    have el : ∀ kind t s p, lawA (up I 4 i z) 4 x kind t s p = lawA I 4 x kind t s p := fun kind t s p => by
      unfold lawA lawT
      rw [ew, lastT_fr (fun b b1 b2 => e b (by omega)), e x (by omega)]
    unfold likeV
    dsimp only
    rw [el, e (4 + 2) (by omega), e (4 + 3) (by omega)]
theorem C_compare (v : Inv L xs k h I) (hk : k < 1000) (x y z : Int) : Cal L xs k h I J 133 277 [iI x, iI y, iI z] := by
  obtain ⟨LW, o⟩ := v.now
  have s := v.t
  have m := v.m
  have kk := o.2.2.1
  have hn := kk.1
  have k1 := kk.2.2.2.2.2.1
  have e13 : I 4 13 = I 90 185 := o.2.1.2.2.2.2.2.1.1
  have E : ∀ I1, TnQ I1 I → I1 90 = I 90 := fun I1 t => t 90 (by omega) (by omega) (by omega) (by omega)
  by_cases c1 : (-1 ≤ x ∧ x < I 90 185) ∧ (0 ≤ y ∧ y < I 90 183) ∧ (0 ≤ z ∧ z < I 90 183)
  case neg =>
    refine Cal.q v hk (-1) (fun d => ⟨I, J, TnQ.rf I, ?_⟩) fun d I1 J1 t => ⟨I1, J1, MnQ.rf I1, ?_⟩
    · rw [r_T_compare, e_T_compare, ygR (aT_3 s) (aR_3_0 s), xB_s, yck (aT_4 s), t_isT (d := d + 98) o y, kI_o]
      by_cases c2 : 0 ≤ y ∧ y < I 90 183
      case neg => rw [if_neg c2, if_pos rfl]
      rw [if_pos c2, if_neg (by omega), ygR (aT_3 s) (aR_3_0 s), xB_s, yck (aT_4 s), t_isT (d := d + 98) o z, kI_o]
      by_cases c3 : 0 ≤ z ∧ z < I 90 183
      case neg => rw [if_neg c3, if_pos rfl]
      have c4 : ¬ (-1 ≤ x ∧ x < I 90 185) := fun q => c1 ⟨q, c2, c3⟩
      rw [if_pos c3, if_neg (by omega), if_neg (by omega), ygR (aT_3 s) (aR_3_0 s), xB_s, yck (aT_4 s), s_isLaw (d := d + 98) (ShT_4 s) x, kI_o, if_neg (show ¬ (0 ≤ x ∧ x < I 4 13) by omega), if_pos rfl]
    · have e90 := E I1 t
      rw [r_M_compare, e_M_compare, yck (bT_88 m), m_isLaw (d := d + 97) m x e90 kk, kI_o]
      by_cases c4 : -1 ≤ x ∧ x < I 90 185
      case neg => rw [if_neg c4, if_pos rfl]
      rw [if_pos c4, if_neg (by omega), yck (bT_88 m), m_isT (d := d + 97) m y e90 hn, kI_o]
      by_cases c2 : 0 ≤ y ∧ y < I 90 183
      case neg => rw [if_neg c2, if_pos rfl]
      have c3 : ¬ (0 ≤ z ∧ z < I 90 183) := fun q => c1 ⟨c4, c2, q⟩
      rw [if_pos c2, if_neg (by omega), yck (bT_88 m), m_isT (d := d + 97) m z e90 hn, kI_o, if_neg c3, if_pos rfl]
  obtain ⟨c4, c2, c3⟩ := c1
  have os : NowOk h (up I 4 14 x) (upF (I 90) 186 x) LW := ⟨s, o.2.1.fld kk (by omega) (Or.inl ⟨rfl, rfl, c4⟩), kk.one (by omega), o.2.2.2.1.cg kk fun i i1 i2 => upF_n i2, o.2.2.2.2⟩
  have hLs := lvOf_ok os.2.2.1 os.2.2.2.1
  have e183 : upF (I 90) 186 x 183 = I 90 183 := upF_n (by omega)
  have lj := os.lj
  have hlw : ∀ q, lawOf h (up I 4 14 x) 4 = some q → 118 ≤ q := fun q hq => by
    rcases os.2.1.law os.2.2.1 with ⟨-, z2, -⟩ | ⟨q', z1, z2, -⟩
    · rw [z2] at hq
      cases hq
    · rw [z1] at hq
      cases hq
      exact z2
  have eu : ∀ b, b ≠ 4 → (up I 4 14 x) b = I b := fun b q => up_na q
  have hLw : LwOk h I 52 (52 + 3) (lawOf h (up I 4 14 x) 4) := fun q hq => by
    obtain ⟨z1, z2⟩ := lj.2.2.2.1 q hq
    have hq2 := hlw q hq
    refine ⟨?_, z2⟩
    rw [eu q (by omega)] at z1
    exact z1.fr fun b b1 b2 => (eu b (by omega)).symm
  have hl14 : lawOf h (up I 4 14 x) 4 = if 0 ≤ x ∧ x < I 4 13 then hR h 15 x.toNat else none := by
    unfold lawOf
    rw [up_eq, up_ni (by omega)]
  have hv : likeV I 4 (lawOf h (up I 4 14 x) 4) y z = likeK (upF (I 90) 186 x) (lvOf (upF (I 90) 186 x) LW) y z := by
    rw [← os.2.1.like os.2.2.1 (t := y) (s := z) (by omega) (by rw [e183]; omega), likeV_up _ hlw]
  refine Cal.q v hk (likeK (upF (I 90) 186 x) (lvOf (upF (I 90) 186 x) LW) y z) (fun d => ?_) fun d I1 J1 t => ?_
  · obtain ⟨I1, a1, a2⟩ := s_likingOf (d := d + 95) (J := J) (ShT_4 s) (ShT_52 s) hLw (by omega) o.2.1.2.2.2.2.2.2.1 (t := y) (s := z) (by omega) (by omega) (by
      rw [o.2.1.at (s := z) (by omega) c3.2]
      have := atK_ok kk c3
      omega)
    rw [hv] at a2
    refine ⟨I1, J, fun b q1 q2 q3 q4 => a1 b (by omega) (by omega), ?_⟩
    rw [r_T_compare, e_T_compare, ygR (aT_3 s) (aR_3_0 s), xB_s, yck (aT_4 s), t_isT (d := d + 98) o y, kI_o, if_pos c2, if_neg (by omega), ygR (aT_3 s) (aR_3_0 s), xB_s, yck (aT_4 s), t_isT (d := d + 98) o z, kI_o, if_pos c3, if_neg (by omega)]
    by_cases c5 : x = -1
    · rw [hl14, if_neg (show ¬ (0 ≤ x ∧ x < I 4 13) by omega)] at a2
      rw [if_pos c5, ygR (aT_3 s) (aR_3_6 s), ygR (aT_3 s) (aR_3_0 s), xB_s, yck (aT_52 s), a2, kI_o]
    · rw [hl14, if_pos (show 0 ≤ x ∧ x < I 4 13 by omega)] at a2
      rw [if_neg c5, ygR (aT_3 s) (aR_3_0 s), xB_s, yck (aT_4 s), s_isLaw (d := d + 98) (ShT_4 s) x, kI_o, if_pos (show 0 ≤ x ∧ x < I 4 13 by omega), if_neg (by omega), ygR (aT_3 s) (aR_3_6 s), ygR (aT_3 s) (aR_3_0 s), ygR (aT_3 s) (aR_3_0 s), xB_s, ygR (aT_4 s) (aR_4_12 s), xB_s, yaR (Or.inl (aT_15 s)) (aL_15 s) (by omega) (by omega), xB_s, yck (aT_52 s), a2, kI_o]
  · have e90 := E I1 t
    have e90' : (up I1 90 186 x) 90 = upF (I 90) 186 x := by rw [up_F, e90]
    obtain ⟨I2, f2, g2⟩ := m_like (d := d + 55) (J := J1) (I := up I1 90 186 x) (L := lvOf (upF (I 90) 186 x) LW) m (by rw [e90']; exact os.2.2.1) (by rw [e90']; exact hLs) (t := y) (u := z) (by rw [e90', e183]; exact c2) (by rw [e90', e183]; exact c3)
    rw [e90'] at g2
    have f90 : I2 90 = upF (I 90) 186 x := (f2.1 90 (by omega) (by omega)).trans e90'
    refine ⟨up I2 90 186 (I 90 186), J1, ⟨fun b hb => ?_, fun i hi => ?_⟩, ?_⟩
    · by_cases q : b = 90
      · rw [q, up_F, f90, e90]
        funext j
        rw [upF_at, upF_at]
        by_cases q2 : j = 186
        · rw [if_pos q2, q2]
        · rw [if_neg q2, if_neg q2]
      · rw [up_na q, f2.1 b (by omega) (by omega), up_na q]
    · rw [up_na (by omega), f2.2 i (by omega) (by omega) (by omega) (by omega), up_na (by omega)]
    · rw [r_M_compare, e_M_compare, yck (bT_88 m), m_isLaw (d := d + 97) m x e90 kk, kI_o, if_pos c4, if_neg (by omega), yck (bT_88 m), m_isT (d := d + 97) m y e90 hn, kI_o, if_pos c2, if_neg (by omega), yck (bT_88 m), m_isT (d := d + 97) m z e90 hn, kI_o, if_pos c3, if_neg (by omega), ygR (bT_88 m) (bR_2 m), xB_s, yaIv (i := 186) (j := 186) (x := I 90 186) (bT_90 m) (bL_90 m) rfl (by omega) (by rw [e90]), ygR (bT_88 m) (bR_2 m), xB_s, zSI (i := 186) (j := 186) (bT_90 m) (by omega) (bL_90 m) rfl (by omega), yck (bT_88 m), g2, kI_o, ygR (bT_88 m) (bR_2 m), xB_s, zSI (i := 186) (j := 186) (bT_90 m) (by omega) (bL_90 m) rfl (by omega)]
end P98
