/-! The call centuries (by program, wip/whole/gen98t.py) -/
section P98t
variable {d k L n : Nat} {I I' I1 I2 J : Nat → Nat → Int} {a b c : Nat} {h h' g : IH} {K : Nat → Int} {LW : Nat → Nat × (Nat → Cls)} {own own' : Nat → Nat} {xs : Nat → Int32}
theorem C_centuries (v : Inv L xs k h I) (hk : k < 1000) (x y : Int) : Cal L xs k h I J 134 286 [iI x, iI y] := by
  have s := v.t
  have m := v.m
  by_cases c1 : 0 ≤ x ∧ x ≤ 1000000
  case neg =>
    have rv : RfV (-1) := by unfold RfV; omega
    refine Cal.r v hk (-1) rv (fun d => ⟨I, J, TnQ.rf I, ?_⟩) fun d I1 J1 t => ⟨refT (-1) I1, J1, MnQ.rf _, ?_⟩
    · rw [r_T_centuries, e_T_centuries]
      by_cases q : x < 0
      · rw [if_pos q, yck (aT_3 s), s_refT (d := d + 98) s (x := -1) rv (v.b87 rv).1, kI_o]
      · rw [if_neg q, if_neg (by omega), yck (aT_3 s), s_refT (d := d + 98) s (x := -1) rv (v.b87 rv).1, kI_o]
    · have e90 : refT (-1) I1 90 = I 90 := (refT_n (by omega) (by omega)).trans (t 90 (by omega) (by omega) (by omega) (by omega))
      have e89 : refT (-1) I1 89 = I 89 := (refT_n (by omega) (by omega)).trans (t 89 (by omega) (by omega) (by omega) (by omega))
      rw [r_M_centuries, e_M_centuries, s_lies (d := d + 98), kI_o, if_neg c1, if_pos rfl, yck (bT_88 m), s_refM (d := d + 98) m (x := -1) rv (by rw [e89]; exact (v.b87 rv).2), kI_o]
  by_cases c2 : 1 ≤ y ∧ y ≤ 60
  case neg =>
    have rv : RfV (-1) := by unfold RfV; omega
    refine Cal.r v hk (-1) rv (fun d => ⟨I, J, TnQ.rf I, ?_⟩) fun d I1 J1 t => ⟨refT (-1) I1, J1, MnQ.rf _, ?_⟩
    · rw [r_T_centuries, e_T_centuries, if_neg (by omega), if_pos c1.2]
      by_cases q : y < 1
      · rw [if_pos q, yck (aT_3 s), s_refT (d := d + 98) s (x := -1) rv (v.b87 rv).1, kI_o]
      · rw [if_neg q, if_neg (by omega), yck (aT_3 s), s_refT (d := d + 98) s (x := -1) rv (v.b87 rv).1, kI_o]
    · have e90 : refT (-1) I1 90 = I 90 := (refT_n (by omega) (by omega)).trans (t 90 (by omega) (by omega) (by omega) (by omega))
      have e89 : refT (-1) I1 89 = I 89 := (refT_n (by omega) (by omega)).trans (t 89 (by omega) (by omega) (by omega) (by omega))
      rw [r_M_centuries, e_M_centuries, s_lies (d := d + 98), kI_o, if_pos c1, if_neg (by omega), s_lies (d := d + 98), kI_o, if_neg c2, if_pos rfl, yck (bT_88 m), s_refM (d := d + 98) m (x := -1) rv (by rw [e89]; exact (v.b87 rv).2), kI_o]
  obtain ⟨own, u1, u2, u3, u4, u5, u6, u7, u8, u9⟩ := id v
  obtain ⟨⟨LW, r, kk, hA⟩, hw⟩ := id u2
  have k1 := kk.1
  have k185 := kk.2.2.2.2.2.1
  obtain ⟨n, en⟩ : ∃ n : Nat, I 90 183 = (n : Int) := ⟨(I 90 183).toNat, by omega⟩
  have e4 : I 4 0 = (n : Int) := r.1.trans en
  by_cases c3 : n = 0
  · subst c3
    have rv : RfV (-3) := by unfold RfV; omega
    refine Cal.r v hk (-3) rv (fun d => ⟨I, J, TnQ.rf I, ?_⟩) fun d I1 J1 t => ⟨refT (-3) I1, J1, MnQ.rf _, ?_⟩
    · rw [r_T_centuries, e_T_centuries, if_neg (by omega), if_pos c1.2, if_neg (by omega), if_pos c2.2, ygR (aT_3 s) (aR_3_0 s), xB_s, ygIv (aT_4 s) e4, if_pos (show ((0 : Nat) : Int) = 0 from rfl), yck (aT_3 s), s_refT (d := d + 98) s (x := -3) rv (v.b87 rv).1, kI_o]
    · have e90 : refT (-3) I1 90 = I 90 := (refT_n (by omega) (by omega)).trans (t 90 (by omega) (by omega) (by omega) (by omega))
      have e89 : refT (-3) I1 89 = I 89 := (refT_n (by omega) (by omega)).trans (t 89 (by omega) (by omega) (by omega) (by omega))
      rw [r_M_centuries, e_M_centuries, s_lies (d := d + 98), kI_o, if_pos c1, if_neg (by omega), s_lies (d := d + 98), kI_o, if_pos c2, if_neg (by omega), yck (bT_88 m), m_many m (x := 0) (by rw [e90]; exact en), kI_o, if_pos rfl, yck (bT_88 m), s_refM (d := d + 98) m (x := -3) rv (by rw [e89]; exact (v.b87 rv).2), kI_o]
  have hn : 0 < n := by omega
  obtain ⟨N, rfl⟩ : ∃ N : Nat, y = (N : Int) := ⟨y.toNat, by omega⟩
  have hNN : N ≤ 60 := by omega
  have ck : CK (I 90) LW (lvOf (I 90) LW) n := ⟨kk, hA, rfl, en⟩
  obtain ⟨L0, eL0⟩ : ∃ L0, lvOf (I 90) LW = L0 := ⟨_, rfl⟩
  rw [eL0] at ck
  obtain ⟨E, eE⟩ : ∃ E, E = cenK L0 n (I 90) x N := ⟨_, rfl⟩
  have ce := CK.cen hn N x ck
  rw [← eE] at ce
  intro d
  obtain ⟨h2, I2, ⟨⟨p1, p2, p3, p4⟩, p5, p6, p7⟩, cp, e2⟩ := s_cpF (d := d + 98) (I := I) (J := J) (h := h) (a := 28) (b := 4) s.2.2.2.2.2.1 (ShT_4 s) (aT_1 s) (aL_1 s) (by omega) (fun j z hj hz => by
    have := hw j z hz
    exact ⟨this.1, by have := this.2.1; omega⟩)
  have e2' : rn (d + 99) 9 [iR (some 28), iR (some 4)] (st h I J) = some (o0, st h2 I2 J) := e2
  have sa : ∀ b, b ≠ 39 → hR h2 b = hR h b := fun b hb => p5 b (by omega)
  have s2 : ShT h2 := by
    obtain ⟨⟨g1, g2⟩, g3, g4, g5, g6, g7, ⟨g8, g9⟩, g10, g11, g12, g13, g14, g15, g16, g17, g18, ⟨g19, g20⟩, g21, g22⟩ := s
    have q : ∀ b, b ≠ 39 → hT h2 b = hT h b ∧ hL h2 b = hL h b ∧ hR h2 b = hR h b := fun b hb => ⟨by rw [p1], by rw [p2], sa b hb⟩
    refine ⟨⟨by rw [p1]; exact g1, by rw [p2]; exact g2⟩, by rw [p1]; exact g3, by rw [sa 3 (by omega)]; exact g4, g5.R ⟨p1, p2⟩ (sa 4 (by omega)), g6.R ⟨p1, p2⟩ (sa 16 (by omega)), g7.R ⟨p1, p2⟩ (sa 28 (by omega)), ⟨by rw [p1]; exact g8, by rw [p2]; exact g9⟩, Tp_tr g10 fun b b1 b2 => q b (by omega), Rd_tr g11 fun b b1 b2 => q b (by omega), Ju_tr g12 fun b b1 b2 => q b (by omega), Mo_tr g13 fun b b1 b2 => q b (by omega), Rn_tr g14 fun b b1 b2 => q b (by omega), Ps_tr g15 fun b b1 b2 => q b (by omega), Ps_tr g16 fun b b1 b2 => q b (by omega), Pa_tr g17 fun b b1 b2 => q b (by omega), Wh_tr g18 fun b b1 b2 => q b (by omega), ⟨by rw [p1]; exact g19, by rw [p2]; exact g20⟩, by rw [p1]; exact g21, by rw [p2]; exact g22⟩
  have m2 : ShM h2 88 := ShM_R m ⟨p1, p2⟩ (sa 88 (by omega))
  have rc : RL h2 I2 28 (I 90) LW := r.copy cp u6.2.2.2 (by omega) p6 (by omega) (fun j z hj hz b c1 c2 => by
    have w1 := (hw j z hz).2.1
    exact ⟨by rw [p1], by rw [p2], sa b (by omega), cp.o (by omega)⟩) (cp.o (by omega))
  have o2 : AnyOk h2 I2 28 (I 90) LW := ⟨s2, s2.2.2.2.2.2.1, rc, kk, hA, fun j z hj hz => by
    rw [p6 j hj] at hz
    exact (hw j z hz).2.1⟩
  have i1 : I2 1 = z0M := by rw [cp.o (by omega)]; exact v.z0
  obtain ⟨I3, t1, t2, t3⟩ := l_cenT (d := d + 92) (h := h2) (J := J) (LW := LW) (L := L0) hNN hn N 0 (999998 - N) I2 (I 90) x (by omega) (by omega) i1 o2 ck
  rw [← eE] at t2 t3
  rw [show 999998 - N + N + 1 = 999999 by omega] at t3
  have t3' : lp (d + 99) 134 999999 61 [some (iR (some 3)), none, some (iI (N : Int)), some (iI x), some (iI 0)] [] (st h2 I2 J) = _ := t3
  obtain ⟨X, eX⟩ : ∃ X, X = up I3 3 15 0 := ⟨_, rfl⟩
  rw [← eX] at t3'
  have hT0 : rn (d + 100) 134 [iR (some 3), iI x, iI (N : Int)] (st h I J) = some (oI (cntSelf E n : Nat), st h2 X J) := by
    rw [r_T_centuries, e_T_centuries, if_neg (by omega), if_pos c1.2, if_neg (by omega), if_pos c2.2, ygR (aT_3 s) (aR_3_0 s), xB_s, ygIv (aT_4 s) e4, if_neg (by omega), ygR (aT_3 s) (aR_3_2 s), ygR (aT_3 s) (aR_3_0 s), xB_s, yck (aT_28 s), e2', kV_o, t3']
  have xo : ∀ b, b ≠ 3 → (b < 28 ∨ 39 < b) → (b < 57 ∨ 61 < b) → X b = I b := fun b q1 q2 q3 => by rw [eX, up_na q1, t1 b q2 q3, cp.o (by omega)]
  -- the reference
  obtain ⟨Y, eY⟩ : ∃ Y, Y = cpy (up (up X 88 56 x) 88 55 (n : Int)) 90 0 93 0 113 := ⟨_, rfl⟩
  have yo : ∀ b, b ≠ 88 → b ≠ 93 → Y b = X b := fun b q1 q2 => by rw [eY, cpy_na q2, up_na q1, up_na q1]
  have x90 : X 90 = I 90 := xo 90 (by omega) (by omega) (by omega)
  have y90 : Y 90 = I 90 := by rw [yo 90 (by omega) (by omega), x90]
  have y88 : ∀ i, i ≠ 56 → Y 88 i = if i = 55 then (n : Int) else I 88 i := fun i q => by rw [eY, cpy_na (by omega), up_at, up_ni q, xo 88 (by omega) (by omega) (by omega)]
  have y56 : Y 88 56 = x := by rw [eY, cpy_na (by omega), up_ni (by omega)]; exact up_eq _ _ _ _
  have y93 : ∀ i, i < 113 → Y 93 i = I 90 i := fun i hi => by
    rw [eY, cpy_at (by omega), up_na (by omega), up_na (by omega), x90, show 0 + (i - 0) = i by omega]
  obtain ⟨I5, f5, g1, g2, g3, g4⟩ := l_cenM (d := d + 51) (h := h2) (J := J) (LW := LW) (L := L0) m2 hNN hn N 0 (999998 - N) Y x (by omega) (by omega) y56 (by rw [y90]; exact ck)
  rw [y90, ← eE] at g3 g4
  rw [show 999998 - N + N + 1 = 999999 by omega] at g4
  have g4' : lp (d + 99) 286 999999 60 [some (iR (some 88)), none, some (iI (N : Int)), some (iI 0), none] [] (st h2 Y J) = _ := g4
  have h100 := l_cen100 (d := d + 98) (h := h2) (J := J) m2 (cntSelf E n : Nat) 113 0 (f5 - 114) I5 rfl
  rw [show f5 - 114 + 113 + 1 = f5 by omega] at h100
  have h100' : lp (d + 99) 286 f5 100 [some (iR (some 88)), none, none, some (iI (cntSelf E n : Nat)), some (iI 0)] [] (st h2 I5 J) = _ := h100
  obtain ⟨Z, eZ⟩ : ∃ Z, Z = up (cpy (cpy I5 90 0 117 0 113) 93 0 90 0 113) 88 0 0 := ⟨_, rfl⟩
  rw [← eZ] at h100'
  have hM : rn (d + 100) 286 [iR (some 88), iI x, iI (N : Int)] (st h2 X J) = some (oI (cntSelf E n : Nat), st h2 Z J) := by
    rw [r_M_centuries, e_M_centuries, s_lies (d := d + 98), kI_o, if_pos c1, if_neg (by omega), s_lies (d := d + 98), kI_o, if_pos c2, if_neg (by omega), yck (bT_88 m2), m_many m2 (x := (n : Int)) (by rw [x90]; exact en), kI_o, if_neg (by omega), ypI (bT_88 m2) (by omega), yck (bT_88 m2), m_many m2 (x := (n : Int)) (by rw [up_na (by omega), x90]; exact en), kI_o, ypI (bT_88 m2) (by omega), yck (bT_88 m2), m_aside (d := d + 98) m2, kV_o, ← eY, g4']
    exact h100'
  have zo : ∀ b, b ≠ 88 → b ≠ 90 → b ≠ 93 → b ≠ 100 → b ≠ 103 → b ≠ 117 → Z b = X b := fun b q1 q2 q3 q4 q5 q6 => by rw [eZ, up_na q1, cpy_na q2, cpy_na q6, g2.1 b q1 q2 q4 q5, yo b q1 q3]
  have z88 : ∀ i, i ≠ 22 → i ≠ 23 → i ≠ 24 → i ≠ 25 → i ≠ 56 → Z 88 i = if i = 0 then 0 else if i = 55 then (n : Int) else I 88 i := fun i q1 q2 q3 q4 q5 => by rw [eZ, up_at, cpy_na (by omega), cpy_na (by omega), g2.2 i q1 q2 q3 q4 q5, y88 i q5]
  have z90 : Z 90 = I 90 := by
    funext i
    rw [eZ, up_na (by omega)]
    by_cases q : i < 113
    · rw [cpy_at (by omega), cpy_na (by omega), g2.1 93 (by omega) (by omega) (by omega) (by omega), y93 _ (by omega), show 0 + (i - 0) = i by omega]
    · rw [cpy_of (by omega), cpy_na (by omega), g3, ce.2 i (by omega)]
  have z117 : ∀ i, i < 113 → Z 117 i = E i := fun i hi => by
    rw [eZ, up_na (by omega), cpy_na (by omega), cpy_at (by omega), g3, show 0 + (i - 0) = i by omega]
  have ff : ∀ b, b ≠ 3 → (b < 28 ∨ 39 < b) → (b < 57 ∨ 61 < b) → b ≠ 88 → b ≠ 93 → b ≠ 100 → b ≠ 103 → b ≠ 117 → Z b = I b := fun b q1 q2 q3 q4 q5 q6 q7 q8 => by
    by_cases q : b = 90
    · rw [q, z90]
    · rw [zo b q4 q q5 q6 q7 q8, xo b q1 q2 q3]
  have z3 : ∀ i, Z 3 i = if i = 15 then 0 else I 3 i := fun i => by rw [zo 3 (by omega) (by omega) (by omega) (by omega) (by omega) (by omega), eX, up_at, t1 3 (by omega) (by omega), cp.o (by omega)]
  have x' : HX h h2 I Z own own 0 := ⟨by rw [p3]; omega, fun _ _ => rfl, fun b c1 c2 _ => ⟨by rw [p1], by rw [p2], sa b (by omega), ff b (by omega) (by omega) (by omega) (by omega) (by omega) (by omega) (by omega) (by omega)⟩⟩
  have ne : ∀ z len, Bk own (hN h) z len → z ≠ 0 := fun z len hz => by
    have := hz.1
    omega
  have zr : RL h2 Z 28 E LW := t2.tr6 (by have := ce.1.1.2.2.2.2.2.1; omega) (fun b b1 b2 => by rw [zo b (by omega) (by omega) (by omega) (by omega) (by omega) (by omega), eX, up_na (by omega)]) rfl (fun j z hj hz b b1 b2 => ⟨rfl, rfl, rfl, by
    have := o2.2.2.2.2.2 j z hj hz
    rw [zo b (by omega) (by omega) (by omega) (by omega) (by omega) (by omega), eX, up_na (by omega)]⟩)
  have e183 : E 183 = (n : Int) := ce.1.2.2.2
  refine ⟨(cntSelf E n : Nat), h2, X, J, h2, Z, J, hT0, hM, ⟨⟨by rw [p1]; exact v.sc.1, by rw [p2]; exact v.sc.2.1, by rw [xo 0 (by omega) (by omega) (by omega)]; exact v.sc.2.2⟩, m2⟩, own, ?_, ?_, ⟨⟨u3.1.1.hx x' (fun z _ hz => ne z 7 hz) (fun z hz => ?_) (by rw [sa 40 (by omega)]) (by rw [ff 92 (by omega) (by omega) (by omega) (by omega) (by omega) (by omega) (by omega) (by omega)]) (fun i _ => by unfold imK; rw [ff 91 (by omega) (by omega) (by omega) (by omega) (by omega) (by omega) (by omega) (by omega)]), u3.1.2.hx x' (fun z _ hz => ne z 7 hz) (fun z hz => ?_) (by rw [sa 40 (by omega)]) (by rw [ff 92 (by omega) (by omega) (by omega) (by omega) (by omega) (by omega) (by omega) (by omega)]) (fun i _ => by unfold imK; rw [ff 91 (by omega) (by omega) (by omega) (by omega) (by omega) (by omega) (by omega) (by omega)])⟩, by rw [sa 40 (by omega)]; exact u3.2⟩, u4.fr (ff _ (by omega) (by omega) (by omega) (by omega) (by omega) (by omega) (by omega) (by omega)) (ff _ (by omega) (by omega) (by omega) (by omega) (by omega) (by omega) (by omega) (by omega)) (ff _ (by omega) (by omega) (by omega) (by omega) (by omega) (by omega) (by omega) (by omega)) (ff _ (by omega) (by omega) (by omega) (by omega) (by omega) (by omega) (by omega) (by omega)) (ff _ (by omega) (by omega) (by omega) (by omega) (by omega) (by omega) (by omega) (by omega)) (ff _ (by omega) (by omega) (by omega) (by omega) (by omega) (by omega) (by omega) (by omega)) (by rw [z88 _ (by omega) (by omega) (by omega) (by omega) (by omega), if_neg (by omega), if_neg (by omega)]) (by rw [z88 _ (by omega) (by omega) (by omega) (by omega) (by omega), if_neg (by omega), if_neg (by omega)]), u5.fr (ff _ (by omega) (by omega) (by omega) (by omega) (by omega) (by omega) (by omega) (by omega)) (ff _ (by omega) (by omega) (by omega) (by omega) (by omega) (by omega) (by omega) (by omega)) (ff _ (by omega) (by omega) (by omega) (by omega) (by omega) (by omega) (by omega) (by omega)) (by rw [z90]) (by rw [z88 _ (by omega) (by omega) (by omega) (by omega) (by omega), if_neg (by omega), if_neg (by omega)]), ⟨?_, ?_, ?_, zr.ldr⟩, ?_, u8.hx x' (fun z _ hz => ne z 1 hz) (sa 83 (by omega)) (ff _ (by omega) (by omega) (by omega) (by omega) (by omega) (by omega) (by omega) (by omega)) (ff _ (by omega) (by omega) (by omega) (by omega) (by omega) (by omega) (by omega) (by omega)), ?_⟩
  · obtain ⟨t1, t2, ⟨t3, t4, t5⟩, t6, t7⟩ := u1
    exact ⟨s2, m2, ⟨by rw [p1]; exact t3, by rw [p2]; exact t4, by rw [ff 0 (by omega) (by omega) (by omega) (by omega) (by omega) (by omega) (by omega) (by omega)]; exact t5⟩, by rw [ff 1 (by omega) (by omega) (by omega) (by omega) (by omega) (by omega) (by omega) (by omega)]; exact t6, by rw [ff 94 (by omega) (by omega) (by omega) (by omega) (by omega) (by omega) (by omega) (by omega)]; exact t7⟩
  · exact u2.hx x' (fun z _ hz => ne z 7 hz) (fun b b1 b2 => ff b (by omega) (by omega) (by omega) (by omega) (by omega) (by omega) (by omega) (by omega)) (sa 15 (by omega)) z90
  · rcases u3.1.1 with ⟨w, -⟩ | ⟨q, w, -, -, w4, -⟩
    · rw [w] at hz
      cases hz
    · rw [w] at hz
      have := Option.some.inj hz
      exact ne z 12 (by rw [← this]; exact w4)
  · rcases u3.1.2 with ⟨w, -⟩ | ⟨q, w, -, -, w4, -⟩
    · rw [w] at hz
      cases hz
    · rw [w] at hz
      have := Option.some.inj hz
      exact ne z 12 (by rw [← this]; exact w4)
  · rw [zr.1, e183]
    omega
  · left
    rw [z88 55 (by omega) (by omega) (by omega) (by omega) (by omega), if_neg (by omega), if_pos rfl, zr.1, e183]
  · intro t ht ht2
    rw [zr.1] at ht2
    have w1 := (zr.2.1 t ht).1
    rw [if_pos ht2] at w1
    have w2 := (zr.2.2.1.1 t ht).1
    rw [z117 t (by omega), z117 (7 + t) (by omega)]
    exact ⟨w1, w2⟩
  · obtain ⟨⟨r1, r2, r3⟩, r4, r5⟩ := u7
    unfold IvR
    rw [ff 87 (by omega) (by omega) (by omega) (by omega) (by omega) (by omega) (by omega) (by omega), ff 89 (by omega) (by omega) (by omega) (by omega) (by omega) (by omega) (by omega) (by omega), z3, z3, z3, z88 0 (by omega) (by omega) (by omega) (by omega) (by omega), z88 6 (by omega) (by omega) (by omega) (by omega) (by omega), z88 47 (by omega) (by omega) (by omega) (by omega) (by omega), if_pos rfl, if_pos rfl, if_neg (by omega), if_neg (by omega), if_neg (by omega), if_neg (by omega), if_neg (by omega), if_neg (by omega)]
    exact ⟨⟨rfl, r2, r3⟩, r4, fun j hj => by have := r5 j hj; omega⟩
  · obtain ⟨w1, w2, w3⟩ := u9
    refine ⟨by omega, by rw [p3]; exact w2, ?_⟩
    rw [p3, p4, sa 83 (by omega)]
    rcases w3 with ⟨w4, w5, w6⟩ | ⟨w4, w5, w6⟩
    · exact Or.inl ⟨w4, by omega, by omega⟩
    · exact Or.inr ⟨w4, by omega, by omega⟩
end P98t
