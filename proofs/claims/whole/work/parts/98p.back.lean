/-! The call back (by program, wip/whole/gen98p.py) -/
section P98p
variable {d k L n : Nat} {I I' I1 I2 J : Nat → Nat → Int} {a b c : Nat} {h h' g : IH} {K : Nat → Int} {LW : Nat → Nat × (Nat → Cls)} {own own' : Nat → Nat} {xs : Nat → Int32}
theorem l_back (m : ShM h 88) {y : Nat} (hy : y ≤ 1) : ∀ (q i f : Nat) (I : Nat → Nat → Int), i + q = 5794 → lp (d + 2) 159 (f + q + 1) 33 [some (iR (some 88)), some (iI (y : Int)), some (iI (i : Int))] [] (st h I J) = some (oI 0, st h (up (up (cpy I 91 (5794 * y + i) 90 i q) 88 31 0) 88 0 0) J) := by
  intro q
  induction q with
  | zero =>
    intro i f I hi
    rw [Nat.add_zero, e_M_back_33, if_neg (by omega), yck (bT_88 m), s_settled m, kI_o, cpy_0]
  | succ q ih =>
    intro i f I hi
    rw [show f + (q + 1) + 1 = (f + q + 1) + 1 by omega, e_M_back_33, if_pos (by omega), ygR (bT_88 m) (bR_2 m), ygR (bT_88 m) (bR_3 m), xB_s, wr_id (x := 5794 * (y : Int)) (by omega) (by omega), wr_id (x := 5794 * (y : Int) + (i : Int)) (by omega) (by omega), zAI (i := 5794 * y + i) (bT_91 m) (bL_91 m) (by omega) (by omega), xB_s, zSI (i := i) (bT_90 m) (by omega) (bL_90 m) rfl (by omega), wr_id (x := (i : Int) + 1) (by omega) (by omega), show (i : Int) + 1 = ((i + 1 : Nat) : Int) by omega, ih (i + 1) f _ (by omega), show 5794 * y + (i + 1) = 5794 * y + i + 1 by omega, cpy_step I _ _ _ (by omega)]
theorem C_back (v : Inv L xs k h I) (hk : k < 1000) (x : Int) : Cal L xs k h I J 137 159 [iI x] := by
  have s := v.t
  have m := v.m
  by_cases c1 : 0 ≤ x ∧ x ≤ 1
  case neg =>
    have rv : RfV (-1) := by unfold RfV; omega
    refine Cal.r v hk (-1) rv (fun d => ⟨I, J, TnQ.rf I, ?_⟩) fun d I1 J1 t => ⟨refT (-1) I1, J1, MnQ.rf _, ?_⟩
    · rw [r_T_back, e_T_back]
      by_cases q : x < 0
      · rw [if_pos q, yck (aT_3 s), s_refT (d := d + 98) s (x := -1) rv (v.b87 rv).1, kI_o]
      · rw [if_neg q, if_neg (by omega), yck (aT_3 s), s_refT (d := d + 98) s (x := -1) rv (v.b87 rv).1, kI_o]
    · have e90 : refT (-1) I1 90 = I 90 := (refT_n (by omega) (by omega)).trans (t 90 (by omega) (by omega) (by omega) (by omega))
      have e89 : refT (-1) I1 89 = I 89 := (refT_n (by omega) (by omega)).trans (t 89 (by omega) (by omega) (by omega) (by omega))
      rw [r_M_back, e_M_back, s_lies (d := d + 98), kI_o, if_neg c1, if_pos rfl, yck (bT_88 m), s_refM (d := d + 98) m (x := -1) rv (by rw [e89]; exact (v.b87 rv).2), kI_o]
  obtain ⟨y, rfl⟩ : ∃ y : Nat, x = (y : Int) := ⟨x.toNat, by omega⟩
  have hy : y ≤ 1 := by omega
  obtain ⟨own, u1, u2, u3, u4, u5, u6, u7, u8, u9⟩ := id v
  obtain ⟨⟨LW, r, kk, hA⟩, hw⟩ := id u2
  have iy : IvI h I own y := by
    have : y = 0 ∨ y = 1 := by omega
    rcases this with rfl | rfl
    · exact u3.1.1
    · exact u3.1.2
  rcases iy with ⟨e40, e92⟩ | ⟨a, e40, e92, la, bka, va⟩
  · have zz : True := trivial
    have rv : RfV (-2) := by unfold RfV; omega
    refine Cal.r v hk (-2) rv (fun d => ⟨I, J, TnQ.rf I, ?_⟩) fun d I1 J1 t => ⟨refT (-2) I1, J1, MnQ.rf _, ?_⟩
    · rw [r_T_back, e_T_back, if_neg (by omega), if_pos (by omega), ygR (aT_3 s) (aR_3_3 s), xB_s, yaR (Or.inr (aT_40 s)) (aL_40 s) (by omega) (by omega), Int.toNat_natCast, e40]
      dsimp only
      rw [yck (aT_3 s), s_refT (d := d + 98) s (x := -2) rv (v.b87 rv).1, kI_o]
    · have e90 : refT (-2) I1 90 = I 90 := (refT_n (by omega) (by omega)).trans (t 90 (by omega) (by omega) (by omega) (by omega))
      have e89 : refT (-2) I1 89 = I 89 := (refT_n (by omega) (by omega)).trans (t 89 (by omega) (by omega) (by omega) (by omega))
      rw [r_M_back, e_M_back, s_lies (d := d + 98), kI_o, if_pos c1, if_neg (by omega), ygR (bT_88 m) (bR_4 m), xB_s, yaBv (i := y) (x := 0) (Or.inr (bT_92 m)) (bL_92 m) rfl (by omega) (by rw [refT_n (by omega) (by omega), t 92 (by omega) (by omega) (by omega) (by omega), e92]), if_pos rfl, yck (bT_88 m), s_refM (d := d + 98) m (x := -2) rv (by rw [e89]; exact (v.b87 rv).2), kI_o]
  intro d
  have h118 := bka.1
  obtain ⟨⟨LWa, ra, kka, hAa⟩, hwa⟩ := id va
  have k185 := kka.2.2.2.2.2.1
  obtain ⟨h2, I2, ⟨⟨p1, p2, p3, p4⟩, p5, p6, p7⟩, cp, e2⟩ := s_cpF (d := d + 98) (I := I) (J := J) (h := h) (a := 4) (b := a) (ShT_4 s) la (aT_1 s) (aL_1 s) (by omega) (fun j z hj hz => by
    have := hwa j z hz
    exact ⟨this.1, by have := this.2.1; omega⟩)
  have e2' : rn (d + 99) 9 [iR (some 4), iR (some a)] (st h I J) = some (o0, st h2 I2 J) := e2
  have sa : ∀ b, b ≠ 15 → hR h2 b = hR h b := fun b hb => p5 b (by omega)
  have s2 : ShT h2 := by
    obtain ⟨⟨g1, g2⟩, g3, g4, g5, g6, g7, ⟨g8, g9⟩, g10, g11, g12, g13, g14, g15, g16, g17, g18, ⟨g19, g20⟩, g21, g22⟩ := s
    have q : ∀ b, b ≠ 15 → hT h2 b = hT h b ∧ hL h2 b = hL h b ∧ hR h2 b = hR h b := fun b hb => ⟨by rw [p1], by rw [p2], sa b hb⟩
    refine ⟨⟨by rw [p1]; exact g1, by rw [p2]; exact g2⟩, by rw [p1]; exact g3, by rw [sa 3 (by omega)]; exact g4, g5.R ⟨p1, p2⟩ (sa 4 (by omega)), g6.R ⟨p1, p2⟩ (sa 16 (by omega)), g7.R ⟨p1, p2⟩ (sa 28 (by omega)), ⟨by rw [p1]; exact g8, by rw [p2]; exact g9⟩, Tp_tr g10 fun b b1 b2 => q b (by omega), Rd_tr g11 fun b b1 b2 => q b (by omega), Ju_tr g12 fun b b1 b2 => q b (by omega), Mo_tr g13 fun b b1 b2 => q b (by omega), Rn_tr g14 fun b b1 b2 => q b (by omega), Ps_tr g15 fun b b1 b2 => q b (by omega), Ps_tr g16 fun b b1 b2 => q b (by omega), Pa_tr g17 fun b b1 b2 => q b (by omega), Wh_tr g18 fun b b1 b2 => q b (by omega), ⟨by rw [p1]; exact g19, by rw [p2]; exact g20⟩, by rw [p1]; exact g21, by rw [p2]; exact g22⟩
  have m2 : ShM h2 88 := ShM_R m ⟨p1, p2⟩ (sa 88 (by omega))
  have hT0 : rn (d + 100) 137 [iR (some 3), iI (y : Int)] (st h I J) = some (oI 0, st h2 (up (up I2 72 0 0) 3 15 0) J) := by
    rw [r_T_back, e_T_back, if_neg (by omega), if_pos (by omega), ygR (aT_3 s) (aR_3_3 s), xB_s, yaR (Or.inr (aT_40 s)) (aL_40 s) (by omega) (by omega), Int.toNat_natCast, e40]
    dsimp only
    rw [ygR (aT_3 s) (aR_3_0 s), ygR (aT_3 s) (aR_3_3 s), xB_s, yaR (Or.inr (aT_40 s)) (aL_40 s) (by omega) (by omega), Int.toNat_natCast, e40, xB_s, yck (aT_4 s), e2', kV_o, ygR (aT_3 s2) (aR_3_9 s2), xB_s, yck (aT_72 s2), s_pastClear (d := d + 98) (ShT_72 s2), kV_o, yck (aT_3 s2), s_taken (d := d + 98) s2, kI_o]
  obtain ⟨X, eX⟩ : ∃ X, X = up (up I2 72 0 0) 3 15 0 := ⟨_, rfl⟩
  rw [← eX] at hT0
  have xo : ∀ b, b ≠ 3 → b ≠ 72 → (b < 4 ∨ 14 < b) → X b = I b := fun b q1 q2 q3 => by rw [eX, up_na q1, up_na q2, cp.o (by omega)]
  have hl := l_back (d := d + 97) (J := J) m2 hy 5794 0 994204 X rfl
  have hl' : lp (d + 99) 159 999999 33 [some (iR (some 88)), some (iI (y : Int)), some (iI 0)] [] (st h2 X J) = _ := hl
  obtain ⟨Z, eZ⟩ : ∃ Z, Z = up (up (cpy X 91 (5794 * y + 0) 90 0 5794) 88 31 0) 88 0 0 := ⟨_, rfl⟩
  rw [← eZ] at hl'
  have hM : rn (d + 100) 159 [iR (some 88), iI (y : Int)] (st h2 X J) = some (oI 0, st h2 Z J) := by
    rw [r_M_back, e_M_back, s_lies (d := d + 98), kI_o, if_pos c1, if_neg (by omega), ygR (bT_88 m2) (bR_4 m2), xB_s, yaBv (i := y) (x := 1) (Or.inr (bT_92 m2)) (bL_92 m2) rfl (by omega) (by rw [xo 92 (by omega) (by omega) (by omega), e92]), if_neg (by omega), hl']
  have zo : ∀ b, b ≠ 88 → b ≠ 90 → Z b = X b := fun b q1 q2 => by rw [eZ, up_na q1, up_na q1, cpy_na q2]
  have z88 : ∀ i, Z 88 i = if i = 0 then 0 else if i = 31 then 0 else I 88 i := fun i => by rw [eZ, up_at, up_at, cpy_na (by omega), xo 88 (by omega) (by omega) (by omega)]
  have z90 : ∀ i, i < 5794 → Z 90 i = imK I y i := fun i hi => by
    rw [eZ, up_na (by omega), up_na (by omega), cpy_at (by omega), xo 91 (by omega) (by omega) (by omega), show 5794 * y + 0 + (i - 0) = 5794 * y + i by omega]
    rfl
  have z3 : ∀ i, Z 3 i = if i = 15 then 0 else I 3 i := fun i => by rw [zo 3 (by omega) (by omega), eX, up_at, up_na (by omega), cp.o (by omega)]
  have z72 : ∀ i, Z 72 i = if i = 0 then 0 else I 72 i := fun i => by rw [zo 72 (by omega) (by omega), eX, up_na (by omega), up_at, cp.o (by omega)]
  have ff : ∀ b, b ≠ 3 → b ≠ 72 → b ≠ 88 → b ≠ 90 → (b < 4 ∨ 14 < b) → Z b = I b := fun b q1 q2 q3 q4 q5 => by rw [zo b q3 q4, xo b q1 q2 q5]
  have x : HX h h2 I Z own own 0 := ⟨by rw [p3]; omega, fun _ _ => rfl, fun b c1 c2 _ => ⟨by rw [p1], by rw [p2], sa b (by omega), ff b (by omega) (by omega) (by omega) (by omega) (by omega)⟩⟩
  have ne : ∀ z len, Bk own (hN h) z len → z ≠ 0 := fun z len hz => by
    have := hz.1
    omega
  have rc : RL h2 I2 4 (imK I y) LWa := ra.copy cp r.ldr (by omega) p6 (by omega) (fun j z hj hz b c1 c2 => by
    have w := hwa j z hz
    have w1 := w.2.1
    exact ⟨by rw [p1], by rw [p2], sa b (by omega), cp.o (by omega)⟩) (cp.o (by omega))
  have tx : ∀ j z, hR h2 15 j = some z → hT h2 z = 19 ∧ Bk own (hN h2) z 7 := fun j z hz => by
    rw [p1, p3]
    by_cases jj : j < 6
    · have hz' : hR h2 (4 + 11) j = some z := hz
      rw [p6 j jj] at hz'
      exact hwa j z hz'
    · have hz' : hR h2 (4 + 11) j = some z := hz
      rw [p7 j (by omega)] at hz'
      exact hw j z hz'
  have nl : IvL h2 Z own 4 (Z 90) := by
    have w0 : IvL h2 Z own 4 (imK I y) := ⟨⟨LWa, rc.tr (fun b c1 c2 => by rw [zo b (by omega) (by omega), eX, up_na (by omega), up_na (by omega)]) rfl (fun j z hz b c1 c2 => by
      have := (tx j z hz).2.1
      exact ⟨rfl, rfl, rfl, by rw [zo b (by omega) (by omega), eX, up_na (by omega), up_na (by omega)]⟩), kka, hAa⟩, fun j z hz => tx j z hz⟩
    exact w0.cgK z90
  refine ⟨0, h2, X, J, h2, Z, J, hT0, hM, ⟨⟨by rw [p1]; exact v.sc.1, by rw [p2]; exact v.sc.2.1, by rw [xo 0 (by omega) (by omega) (by omega)]; exact v.sc.2.2⟩, m2⟩, own, ?_, nl, ⟨⟨u3.1.1.hx x (fun z _ hz => ne z 7 hz) (fun z hz => ?_) (by rw [sa 40 (by omega)]) (by rw [ff 92 (by omega) (by omega) (by omega) (by omega) (by omega)]) (fun i _ => by unfold imK; rw [ff 91 (by omega) (by omega) (by omega) (by omega) (by omega)]), u3.1.2.hx x (fun z _ hz => ne z 7 hz) (fun z hz => ?_) (by rw [sa 40 (by omega)]) (by rw [ff 92 (by omega) (by omega) (by omega) (by omega) (by omega)]) (fun i _ => by unfold imK; rw [ff 91 (by omega) (by omega) (by omega) (by omega) (by omega)])⟩, by rw [sa 40 (by omega)]; exact u3.2⟩, u4.fr (ff _ (by omega) (by omega) (by omega) (by omega) (by omega)) (ff _ (by omega) (by omega) (by omega) (by omega) (by omega)) (ff _ (by omega) (by omega) (by omega) (by omega) (by omega)) (ff _ (by omega) (by omega) (by omega) (by omega) (by omega)) (ff _ (by omega) (by omega) (by omega) (by omega) (by omega)) (ff _ (by omega) (by omega) (by omega) (by omega) (by omega)) (by rw [z88, if_neg (by omega), if_neg (by omega)]) (by rw [z88, if_neg (by omega), if_neg (by omega)]), u5.no (by rw [z72, if_pos rfl]) (by rw [z72, if_neg (by omega)]) (by rw [z88, if_neg (by omega), if_pos rfl]), u6.fr (fun b b1 b2 => ff b (by omega) (by omega) (by omega) (by omega) (by omega)) (ff _ (by omega) (by omega) (by omega) (by omega) (by omega)) (by rw [z88, if_neg (by omega), if_neg (by omega)]), ?_, u8.hx x (fun z _ hz => ne z 1 hz) (sa 83 (by omega)) (ff _ (by omega) (by omega) (by omega) (by omega) (by omega)) (ff _ (by omega) (by omega) (by omega) (by omega) (by omega)), ?_⟩
  · obtain ⟨t1, t2, ⟨t3, t4, t5⟩, t6, t7⟩ := u1
    exact ⟨s2, m2, ⟨by rw [p1]; exact t3, by rw [p2]; exact t4, by rw [ff 0 (by omega) (by omega) (by omega) (by omega) (by omega)]; exact t5⟩, by rw [ff 1 (by omega) (by omega) (by omega) (by omega) (by omega)]; exact t6, by rw [ff 94 (by omega) (by omega) (by omega) (by omega) (by omega)]; exact t7⟩
  · rcases u3.1.1 with ⟨w, -⟩ | ⟨q, w, -, -, w4, -⟩
    · rw [w] at hz
      cases hz
    · rw [w] at hz
      have := Option.some.inj hz
      exact ne z 12 (by rw [← this]; exact w4)
  · rcases u3.1.2 with ⟨w, -⟩ | ⟨q, w, -, -, w4, -⟩
    · rw [w] at hz
      cases hz
    · rw [w] at hz
      have := Option.some.inj hz
      exact ne z 12 (by rw [← this]; exact w4)
  · obtain ⟨⟨r1, r2, r3⟩, r4, r5⟩ := u7
    unfold IvR
    rw [ff 87 (by omega) (by omega) (by omega) (by omega) (by omega), ff 89 (by omega) (by omega) (by omega) (by omega) (by omega), z3, z3, z3, z88, z88, z88, if_pos rfl, if_pos rfl, if_neg (by omega), if_neg (by omega), if_neg (by omega), if_neg (by omega), if_neg (by omega), if_neg (by omega)]
    exact ⟨⟨rfl, r2, r3⟩, r4, fun j hj => by have := r5 j hj; omega⟩
  · obtain ⟨w1, w2, w3⟩ := u9
    refine ⟨by omega, by rw [p3]; exact w2, ?_⟩
    rw [p3, p4, sa 83 (by omega)]
    rcases w3 with ⟨w4, w5, w6⟩ | ⟨w4, w5, w6⟩
    · exact Or.inl ⟨w4, by omega, by omega⟩
    · exact Or.inr ⟨w4, by omega, by omega⟩
end P98p
