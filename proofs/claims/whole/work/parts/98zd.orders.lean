/-! The call orders (by program, wip/whole/gen98zd.py) -/
theorem ShT.R {h h' : IH} {r : Nat} (s : ShT h) (hr : r = 15 ∨ r = 27 ∨ r = 39) (p1 : hT h' = hT h) (p2 : hL h' = hL h) (sa : ∀ b, b ≠ r → hR h' b = hR h b) : ShT h' := by
  obtain ⟨⟨g1, g2⟩, g3, g4, g5, g6, g7, ⟨g8, g9⟩, g10, g11, g12, g13, g14, g15, g16, g17, g18, ⟨g19, g20⟩, g21, g22⟩ := s
  have q : ∀ b, b ≠ r → hT h' b = hT h b ∧ hL h' b = hL h b ∧ hR h' b = hR h b := fun b hb => ⟨by rw [p1], by rw [p2], sa b hb⟩
  refine ⟨⟨by rw [p1]; exact g1, by rw [p2]; exact g2⟩, by rw [p1]; exact g3, by rw [sa 3 (by omega)]; exact g4, g5.R ⟨p1, p2⟩ (sa 4 (by omega)), g6.R ⟨p1, p2⟩ (sa 16 (by omega)), g7.R ⟨p1, p2⟩ (sa 28 (by omega)), ⟨by rw [p1]; exact g8, by rw [p2]; exact g9⟩, Tp_tr g10 fun b b1 b2 => q b (by omega), Rd_tr g11 fun b b1 b2 => q b (by omega), Ju_tr g12 fun b b1 b2 => q b (by omega), Mo_tr g13 fun b b1 b2 => q b (by omega), Rn_tr g14 fun b b1 b2 => q b (by omega), Ps_tr g15 fun b b1 b2 => q b (by omega), Ps_tr g16 fun b b1 b2 => q b (by omega), Pa_tr g17 fun b b1 b2 => q b (by omega), Wh_tr g18 fun b b1 b2 => q b (by omega), ⟨by rw [p1]; exact g19, by rw [p2]; exact g20⟩, by rw [p1]; exact g21, by rw [p2]; exact g22⟩
section P98zd
variable {d k L n c : Nat} {I I' J : Nat → Nat → Int} {h h' : IH} {K : Nat → Int} {LW : Nat → Nat × (Nat → Cls)} {own : Nat → Nat} {xs : Nat → Int32}
theorem Inv.gen4 (u1 : IvB L xs h I) (u3 : (IvI h I own 0 ∧ IvI h I own 1) ∧ ∀ x y, hR h 40 0 = some x → hR h 40 1 = some y → x ≠ y) (u6 : IvC I) (u8 : IvW h I own) (u9 : IvN h k) (hk : k < 1000) (s' : ShT h') (p1 : hT h' = hT h) (p2 : hL h' = hL h) (p3 : hN h' = hN h) (p4 : hS h' = hS h) (sa : ∀ b, b ≠ 43 → b ≠ 27 → hR h' b = hR h b) (c : ∀ b, (b = 0 ∨ b = 1 ∨ (28 ≤ b ∧ b ≤ 40) ∨ b = 83 ∨ b = 85 ∨ b = 91 ∨ b = 92 ∨ b = 94 ∨ 117 ≤ b) → I' b = I b) (e55 : I' 88 55 = I 88 55) (hr : IvR I' (k + 1)) (hl : IvL h' I' own 4 (I' 90)) (ht : IvT I') (hp : IvP I') : Inv L xs (k + 1) h' I' := by
  have x : HX h h' I I' own own 0 := ⟨by rw [p3]; omega, fun _ _ => rfl, fun b c1 c2 _ => ⟨by rw [p1], by rw [p2], sa b (by omega) (by omega), c b (by omega)⟩⟩
  have ne : ∀ z len, Bk own (hN h) z len → z ≠ 0 := fun z len hz => by
    have := hz.1
    omega
  have n12 : ∀ y z, IvI h I own y → hR h 40 y = some z → z ≠ 0 := fun y z v hz => by
    rcases v with ⟨w, -⟩ | ⟨q, w, -, -, w4, -⟩
    · rw [w] at hz
      cases hz
    · rw [w] at hz
      have e := Option.some.inj hz
      exact ne z 12 (by rw [← e]; exact w4)
  refine ⟨own, ?_, hl, ⟨⟨u3.1.1.hx x (fun z _ hz => ne z 7 hz) (fun z hz => n12 0 z u3.1.1 hz) (by rw [sa 40 (by omega) (by omega)]) (by rw [c 92 (by omega)]) (fun i _ => by unfold imK; rw [c 91 (by omega)]), u3.1.2.hx x (fun z _ hz => ne z 7 hz) (fun z hz => n12 1 z u3.1.2 hz) (by rw [sa 40 (by omega) (by omega)]) (by rw [c 92 (by omega)]) (fun i _ => by unfold imK; rw [c 91 (by omega)])⟩, by rw [sa 40 (by omega) (by omega)]; exact u3.2⟩, ht, hp, u6.fr (fun b b1 b2 => c b (by omega)) (c _ (by omega)) e55, hr, u8.hx x (fun z _ hz => ne z 1 hz) (sa 83 (by omega) (by omega)) (c _ (by omega)) (c _ (by omega)), ?_⟩
  · obtain ⟨t1, t2, ⟨t3, t4, t5⟩, t6, t7⟩ := u1
    exact ⟨s', ShM_R t2 ⟨p1, p2⟩ (sa 88 (by omega) (by omega)), ⟨by rw [p1]; exact t3, by rw [p2]; exact t4, by rw [c 0 (by omega)]; exact t5⟩, by rw [c 1 (by omega)]; exact t6, by rw [c 94 (by omega)]; exact t7⟩
  · obtain ⟨w1, w2, w3⟩ := u9
    refine ⟨by omega, by rw [p3]; exact w2, ?_⟩
    rw [p3, p4, sa 83 (by omega) (by omega)]
    rcases w3 with ⟨w4, w5, w6⟩ | ⟨w4, w5, w6⟩
    · exact Or.inl ⟨w4, by omega, by omega⟩
    · exact Or.inr ⟨w4, by omega, by omega⟩
/-- the heap behind the reader: as before but for the row read -/
theorem C_orders (v : Inv L xs k h I) (hk : k < 1000) : Cal L xs k h I J 110 279 [] := by
  obtain ⟨own, u1, u2, u3, u4, u5, u6, u7, u8, u9⟩ := id v
  obtain ⟨⟨LW, r, kk, hA⟩, hw⟩ := id u2
  have s := v.t
  have m := v.m
  have k1 := kk.1
  have k185 := kk.2.2.2.2.2.1
  obtain ⟨⟨t1, t2, t3⟩, t4, t5, t6⟩ := id u4
  have ww : ∀ i, I 94 i = wordB.getD i 0 := u1.2.2.2.2
  obtain ⟨n, en⟩ : ∃ n : Nat, I 88 13 = (n : Int) := ⟨(I 88 13).toNat, by omega⟩
  have hn : n ≤ 400 := by omega
  have hB : ∀ i, 0 ≤ I 42 i ∧ I 42 i ≤ 255 := fun i => (t4 i).1
  obtain ⟨nt, ent⟩ : ∃ nt : Nat, I 90 183 = (nt : Int) := ⟨(I 90 183).toNat, by omega⟩
  intro d
  obtain ⟨g, eg, gT, gL, gN, gS, gR⟩ := sRg h
  have sg : ShT g := by rw [eg]; exact ShT_p s (some 42)
  obtain ⟨rv, I1, f1, e1, G1⟩ := s_readText (d := d + 65) (J := J) (I := I) (B := I 42) (n := n) (ord := 1) (nw := 18) s hn hB rfl t6 (Or.inr ⟨rfl, rfl⟩)
  rw [← eg] at e1
  have e1' : rn (d + 99) 53 [iR (some 43), iR (some 42), iI (n : Int), iI 1] (st h I J) = some (oI rv, st g I1 J) := e1
  have fo : ∀ b, (b < 43 ∨ 50 < b) → I1 b = I b := fun b hb => f1 b hb
  have mg : ShM g 88 := ShM_R m ⟨gT, gL⟩ (gR 88 (by omega))
  obtain ⟨X, eX⟩ : ∃ X, X = up (up I1 41 1 0) 3 17 (-1) := ⟨_, rfl⟩
  have xo : ∀ b, (b < 3 ∨ (3 < b ∧ b < 41) ∨ b = 42 ∨ 50 < b) → X b = I b := fun b hb => by rw [eX, up_na (by omega), up_na (by omega), fo b (by omega)]
  have xI1 : ∀ b, 43 ≤ b → b ≤ 50 → X b = I1 b := fun b q1 q2 => by rw [eX, up_na (by omega), up_na (by omega)]
  have x3 : ∀ i, X 3 i = if i = 17 then -1 else I 3 i := fun i => by rw [eX, up_at, up_na (by omega), fo 3 (by omega)]
  have x41 : X 41 1 = 0 := by rw [eX, up_na (by omega), up_eq]
  cases ex : aText (I 42) n 1 with
  | inl q =>
    -- a FAULT
    obtain ⟨rno, rv0⟩ := G1.1 q ex
    have rfv : RfV (-6) := by unfold RfV; omega
    have hb := v.b87 rfv
    obtain ⟨Y, eY⟩ : ∃ Y, Y = refT (-6) X := ⟨_, rfl⟩
    have hT1 : rn (d + 100) 110 [iR (some 3)] (st h I J) = some (oI (-6), st g Y J) := by
      rw [r_T_orders, e_T_orders, ygR (aT_3 s) (aR_3_5 s), ygR (aT_3 s) (aR_3_4 s), xB_s, ygR (aT_41 s) (aR_41_0 s), ygR (aT_3 s) (aR_3_4 s), xB_s, ygIv (x := (n : Int)) (aT_41 s) (by rw [t1, en]), xB_s, yck (aT_43 s), e1', kI_o, ygR (aT_3 sg) (aR_3_4 sg), xB_s, ypI (aT_41 sg) (by omega), ypI (aT_3 sg) (by omega), ← eX, if_pos rv0, yck (aT_3 sg), s_refT (d := d + 98) sg (x := -6) rfv (by rw [xo 87 (by omega)]; exact hb.1), kI_o, ← eY]
    have y0 : ∀ b, b ≠ 87 → b ≠ 3 → Y b = X b := fun b q1 q2 => by rw [eY, refT_n q2 q1]
    obtain ⟨Y1, eY1⟩ : ∃ Y1, Y1 = up Y 88 47 (-1) := ⟨_, rfl⟩
    have y1 : ∀ b, b ≠ 88 → Y1 b = Y b := fun b hb => by rw [eY1, up_na hb]
    obtain ⟨Kt, mv, I2, m1, m2, ⟨m3, m4, m5⟩, m6⟩ := s_readsAs (d := d + 61) (h := g) (J := J) (I := Y1) (B := I 42) (n := n) (ord := 1) mg hB hn (Or.inr rfl) (by rw [eY1, up_ni (by omega), y0 88 (by omega) (by omega), xo 88 (by omega)]; exact en) (fun i => by rw [y1 94 (by omega), y0 94 (by omega) (by omega), xo 94 (by omega)]; exact ww i) (fun i _ => by rw [y1 95 (by omega), y0 95 (by omega) (by omega), xo 95 (by omega)]; exact (t4 i).2)
    obtain ⟨m7, m8⟩ := m4 q ex
    obtain ⟨Z, eZ⟩ : ∃ Z, Z = refM (-6) I2 := ⟨_, rfl⟩
    have hM0 : rn (d + 100) 279 [iR (some 88)] (st g Y J) = some (oI (-6), st g Z J) := by
      have m2' : rn (d + 99) 201 [iR (some 88), iI 1] (st g Y1 J) = _ := m2
      rw [r_M_orders, e_M_orders, ypI (bT_88 mg) (by omega), ← eY1, yck (bT_88 mg), m2', kI_o, if_pos m8, yck (bT_88 mg), s_refM (d := d + 98) mg (x := -6) rfv (by rw [m1.1 89 (by omega) (by omega) (by omega) (by omega), y1 89 (by omega), y0 89 (by omega) (by omega), xo 89 (by omega)]; exact hb.2), kI_o, eZ]
    have z0 : ∀ b, b ≠ 88 → b ≠ 89 → b ≠ 97 → b ≠ 98 → b ≠ 99 → Z b = Y b := fun b q1 q2 q3 q4 q5 => by rw [eZ]; unfold refM; rw [up_na q2, up_na q1, m1.1 b q1 q3 q4 q5, y1 b q1]
    have zz : ∀ b, (b < 3 ∨ (3 < b ∧ b < 41) ∨ b = 42 ∨ (50 < b ∧ b < 87) ∨ (89 < b ∧ b < 97) ∨ 99 < b) → Z b = I b := fun b hb => by rw [z0 b (by omega) (by omega) (by omega) (by omega) (by omega), y0 b (by omega) (by omega), xo b (by omega)]
    have z88 : ∀ i, i ≠ 0 → Z 88 i = I2 88 i := fun i hi => by rw [eZ]; unfold refM; rw [up_na (by omega), up_ni hi]
    have z880 : Z 88 0 = -6 := by rw [eZ]; unfold refM; rw [up_na (by omega), up_eq]
    have i88 : ∀ i, (i = 6 ∨ i = 31 ∨ i = 55) → Z 88 i = I 88 i := fun i hi => by rw [z88 i (by omega), m1.2 i (by omega) (by omega) (by omega) (by omega) (by omega) (by omega) (by omega) (by omega) (by omega), eY1, up_ni (by omega), y0 88 (by omega) (by omega), xo 88 (by omega)]
    have z47 : Z 88 47 = -1 := by rw [z88 47 (by omega), m1.2 47 (by omega) (by omega) (by omega) (by omega) (by omega) (by omega) (by omega) (by omega) (by omega), eY1, up_eq]
    have g3 : ∀ i, Z 3 i = if i = 15 then -6 else if i = 17 then -1 else I 3 i := fun i => by rw [z0 3 (by omega) (by omega) (by omega) (by omega) (by omega), eY]; unfold refT; rw [up_na (by omega), up_at, x3]
    have g87 : ∀ i, Z 87 i = if i = plc (-6) then I 87 (plc (-6)) + 1 else I 87 i := fun i => by rw [z0 87 (by omega) (by omega) (by omega) (by omega) (by omega), eY, refT_87, xo 87 (by omega)]
    have g89 : ∀ i, Z 89 i = if i = (-(-6 : Int)).toNat then I 89 (-(-6 : Int)).toNat + 1 else I 89 i := fun i => by rw [eZ]; unfold refM; rw [up_at, up_na (by omega), m1.1 89 (by omega) (by omega) (by omega) (by omega), y1 89 (by omega), y0 89 (by omega) (by omega), xo 89 (by omega)]
    have yI1 : ∀ b, 43 ≤ b → b ≤ 50 → Z b = I1 b := fun b q1 q2 => by rw [z0 b (by omega) (by omega) (by omega) (by omega) (by omega), y0 b (by omega) (by omega), xI1 b q1 q2]
    refine ⟨-6, g, Y, J, g, Z, J, hT1, hM0, ⟨⟨by rw [gT]; exact v.sc.1, by rw [gL]; exact v.sc.2.1, by rw [y0 0 (by omega) (by omega), xo 0 (by omega)]; exact v.sc.2.2⟩, mg⟩, Inv.gen4 u1 u3 u6 u8 u9 hk sg gT gL gN gS (fun b q _ => gR b q) (fun b hb => zz b (by omega)) (i88 55 (by omega)) (u7.ref rfv (by rw [g3, z880, if_pos rfl]) (by rw [g3, i88 6 (by omega), if_neg (by omega), if_neg (by omega)]; exact u7.1.2.1) (by rw [g3, z47, if_neg (by omega), if_pos rfl]) g87 g89) ?_ ⟨?_, ?_, ?_, ?_⟩ (u5.fr (zz _ (by omega)) (zz _ (by omega)) (zz _ (by omega)) (by rw [zz 90 (by omega)]) (i88 31 (by omega)))⟩
    · have x : HX h g I Z own own 0 := ⟨by rw [gN]; omega, fun _ _ => rfl, fun b b1 b2 _ => ⟨by rw [gT], by rw [gL], gR b (by omega), zz b (by omega)⟩⟩
      exact u2.hx x (fun z _ hz => by have := hz.1; omega) (fun b b1 b2 => zz b (by omega)) (gR 15 (by omega)) (zz 90 (by omega))
    · rw [z0 41 (by omega) (by omega) (by omega) (by omega) (by omega), y0 41 (by omega) (by omega), x41, z88 13 (by omega), m6]
      omega
    · rw [zz 42 (by omega), zz 95 (by omega)]
      exact t4
    · rw [yI1 43 (by omega) (by omega), z88 14 (by omega), m7]
      exact rno.2.1.1
    · have := rno.2.2.2
      unfold StOk at *
      rw [yI1 45 (by omega) (by omega), yI1 46 (by omega) (by omega)]
      exact this
  | inr y =>
    obtain ⟨cc, CL⟩ := y
    obtain ⟨rv1, p, l, mm, ro, e447, hc, tS⟩ := G1.2 cc CL ex
    obtain ⟨⟨r1, r2, r3⟩, ⟨r4, r5⟩, ⟨r6, r7⟩, ⟨r8, r9, r10⟩, r11⟩ := id ro
    -- how many tokens
    obtain ⟨Kt, mv0, I0', -, -, ⟨md, -⟩, -⟩ := s_readsAs (d := d) (J := J) (I := I) (B := I 42) (n := n) (ord := 1) m hB hn (Or.inr rfl) en ww (fun i _ => (t4 i).2)
    have tE := evT_of hB hn md
    have hKt := tE.2.1
    obtain ⟨K1, eK1⟩ : ∃ K1, K1 = lay6 (I 90) (I 42) n Kt := ⟨_, rfl⟩
    have k1o : ∀ i, (i < 193 ∨ (193 < i ∧ i < 2594) ∨ (2994 ≤ i ∧ i < 5394)) → K1 i = I 90 i := fun i hi => by rw [eK1]; exact lay6_of (by omega) hi
    have kk1 : KOk K1 := kk.lt fun i hi => k1o i (by omega)
    have hA1 : LwA K1 LW := hA.lt kk fun i hi => k1o i (by omega)
    have ckE : CK K1 LW (lvOf K1 LW) nt := ⟨kk1, hA1, rfl, by rw [k1o 183 (by omega)]; exact ent⟩
    obtain ⟨L0, eL0⟩ : ∃ L0, lvOf K1 LW = L0 := ⟨_, rfl⟩
    rw [eL0] at ckE
    obtain ⟨kp, nx, b1, b2, b3, b4, b5, b6⟩ := id u5
    obtain ⟨H, eH⟩ : ∃ H : Nat → Nat → Int, H = fun i => pR101 (I 101) i := ⟨_, rfl⟩
    obtain ⟨S0, eS0⟩ : ∃ S0 : OSt, S0 = (K1, 0, -1, kp, H) := ⟨_, rfl⟩
    have so0 : StO LW L0 nt 0 S0 := by
      rw [eS0]
      exact ⟨ckE, ⟨Int.le_refl _, Int.le_refl _⟩, ⟨Int.le_refl _, by show (-1 : Int) ≤ 1000; omega⟩, b1⟩
    obtain ⟨hOr, hcc, -⟩ := m_textA (d := d) (o := 2400) (nt := nt) (L := L0) (LW := LW) m tE ex
    -- ahead
    obtain ⟨h2, I2, ⟨⟨p1, p2, p3, p4⟩, p5, p6, p7⟩, cp, e2⟩ := s_cpF (d := d + 98) (I := X) (J := J) (h := g) (a := 16) (b := 4) sg.2.2.2.2.1 (ShT_4 sg) (aT_1 sg) (aL_1 sg) (by omega) (fun j z hj hz => by
      rw [gR 15 (by omega)] at hz
      have := hw j z hz
      rw [gT]
      exact ⟨this.1, by have := this.2.1; omega⟩)
    have e2' : rn (d + 99) 9 [iR (some 16), iR (some 4)] (st g X J) = some (o0, st h2 I2 J) := e2
    have s2 : ShT h2 := sg.R (r := 27) (by omega) p1 p2 (fun b hb => p5 b (by omega))
    have hT2 : hT h2 = hT h := by rw [p1, gT]
    have hL2 : hL h2 = hL h := by rw [p2, gL]
    have hR2 : ∀ b, b ≠ 43 → b ≠ 27 → hR h2 b = hR h b := fun b q1 q2 => by rw [p5 b (by omega), gR b q1]
    have m2 : ShM h2 88 := ShM_R m ⟨hT2, hL2⟩ (hR2 88 (by omega) (by omega))
    have hps := s_psC (d := d + 98) (h := h2) (I := I2) (J := J) (a := 74) (b := 72) s2.2.2.2.2.2.2.2.2.2.2.2.2.2.1 (ShT_72 s2) (by omega)
    obtain ⟨I3, eI3⟩ : ∃ I3, I3 = cpy (up (up I2 74 0 (I2 72 0)) 74 1 (I2 72 1)) 73 0 75 0 1224 := ⟨_, rfl⟩
    have hps' : rn (d + 99) 48 [iR (some 74), iR (some 72)] (st h2 I2 J) = some (o0, st h2 I3 J) := by
      rw [eI3]
      exact hps
    have i2o : ∀ b, (b < 16 ∨ 26 < b) → I2 b = X b := fun b hb => cp.1 b (by omega)
    have i3o : ∀ b, b ≠ 74 → b ≠ 75 → I3 b = I2 b := fun b q1 q2 => by rw [eI3, cpy_na q2, up_na q1, up_na q1]
    obtain ⟨I4, eI4⟩ : ∃ I4, I4 = up (up I3 62 0 0) 62 1 (-1) := ⟨_, rfl⟩
    have i4o : ∀ b, b ≠ 62 → I4 b = I3 b := fun b hb => by rw [eI4, up_na hb, up_na hb]
    have i4I : ∀ b, (b < 3 ∨ (3 < b ∧ b < 16) ∨ (26 < b ∧ b < 41) ∨ b = 42 ∨ (50 < b ∧ b < 62) ∨ (62 < b ∧ b < 74) ∨ 75 < b) → I4 b = I b := fun b hb => by rw [i4o b (by omega), i3o b (by omega) (by omega), i2o b (by omega), xo b (by omega)]
    have i4I1 : ∀ b, 43 ≤ b → b ≤ 50 → I4 b = I1 b := fun b q1 q2 => by rw [i4o b (by omega), i3o b (by omega) (by omega), i2o b (by omega), xI1 b q1 q2]
    have hw2 : ∀ j x, hR h2 15 j = some x → 118 ≤ x := fun j x hx => by
      rw [hR2 15 (by omega) (by omega)] at hx
      exact (hw j x hx).2.1
    have rK : RL h I 4 K1 LW := r.lt kk fun i hi => k1o i (by omega)
    have to4 : TO h2 I4 LW nt S0 := by
      rw [eS0]
      refine ⟨rK.tr (fun b q1 q2 => i4I b (by omega)) (hR2 15 (by omega) (by omega)) (fun j x hx b q1 q2 => ?_), ⟨by rw [eI4, up_ni (by omega)]; exact up_eq _ _ _ _, by rw [eI4]; exact up_eq _ _ _ _⟩, b1, by rw [i4I 72 (by omega)]; exact b3, nx, b2, by rw [i4I 72 (by omega)]; exact b4, fun i hi => ?_⟩
      · have := (hw j x hx).2.1
        exact ⟨by rw [hT2], by rw [hL2], hR2 b (by omega) (by omega), i4I b (by omega)⟩
      · rw [i4I 73 (by omega), ← ent]
        show RwP _ _ (H i)
        rw [eH]
        exact b6 i hi
    have tx1 : TxT g I1 cc CL := txT_of sg r11 r9 hc.2 tS r7 e447
    have tx : TxT h2 I4 cc CL := by
      have := txT_of (I := I4) (CL := CL) s2 (by
        have := r11
        unfold StOk at *
        rw [i4I1 45 (by omega) (by omega), i4I1 46 (by omega) (by omega)]
        exact this) r9 hc.2 (by
          refine ⟨fun j hj => ?_, fun a q1 q2 => by rw [i4I1 49 (by omega) (by omega), i4I1 50 (by omega) (by omega)]; exact tS.2 a q1 q2⟩
          obtain ⟨q1, q2, q3⟩ := tS.1 j hj
          refine ⟨by rw [i4I1 47 (by omega) (by omega)]; exact q1, by rw [i4I1 48 (by omega) (by omega)]; exact q2, fun q hq => ?_⟩
          have w := q3 q hq
          cases hx : (CL j).2.2 q with
          | none =>
            rw [hx] at w
            have w' : I1 49 (4 * j + q) = 0 ∧ I1 50 (4 * j + q) = 0 := w
            show I4 49 (4 * j + q) = 0 ∧ I4 50 (4 * j + q) = 0
            rw [i4I1 49 (by omega) (by omega), i4I1 50 (by omega) (by omega)]
            exact w'
          | some gg =>
            rw [hx] at w
            have w' : ∃ f t z : Nat, I1 49 (4 * j + q) = f ∧ I1 50 (4 * j + q) = t ∧ t ≤ mm ∧ z ≤ 50 ∧ sem 18 (I1 45) (I1 46) f t z gg := w
            show ∃ f t z : Nat, I4 49 (4 * j + q) = f ∧ I4 50 (4 * j + q) = t ∧ t ≤ mm ∧ z ≤ 50 ∧ sem 18 (I4 45) (I4 46) f t z gg
            rw [i4I1 49 (by omega) (by omega), i4I1 50 (by omega) (by omega), i4I1 45 (by omega) (by omega), i4I1 46 (by omega) (by omega)]
            exact w') (by rw [i4I1 44 (by omega) (by omega)]; exact r7) (by rw [i4I1 44 (by omega) (by omega)]; exact e447)
      exact this
    obtain ⟨T1, T2⟩ := t_text (d := d + 92) (h := h2) (J := J) (L := L0) (LW := LW) (nt := nt) (CL := CL) s2 hc.2 hOr hw2 cc 0 (999998 - 22 * cc) I4 S0 0 (by omega) tx to4 so0 (by omega) (by rw [i4I 1 (by omega)]; exact v.z0)
    rw [show 999998 - 22 * cc + 22 * cc + 1 = 999999 by omega] at T1 T2
    have hin : ∀ (x : Int) (I5 : Nat → Nat → Int), lp (d + 98) 76 999999 13 [some (iR (some 62)), some (iR (some 44)), some (iR (some 4)), some (iR (some 72)), some (iI 0), none] [] (st h2 I4 J) = some (oI x, st h2 I5 J) → rn (d + 100) 110 [iR (some 3)] (st h I J) = (if x = (-1) then xgR (st h2 (up I5 3 17 x) J) 3 21 8 fun x36 => xB x36 fun a38 => xgI (st h2 (up I5 3 17 x) J) a38 17 0 fun x37 => xck (st h2 (up I5 3 17 x) J) 3 21 <| kI (rn (d + 99) 140 [iR (some 3), iI x37] (st h2 (up I5 3 17 x) J)) fun x40 h39 => some (oI x40, h39) else xgR (st h2 (up I5 3 17 x) J) 3 21 0 fun x41 => xgR (st h2 (up I5 3 17 x) J) 3 21 1 fun x42 => xB x41 fun a43 => xck (st h2 (up I5 3 17 x) J) a43 11 <| kV (rn (d + 99) 9 [iR (some a43), iR x42] (st h2 (up I5 3 17 x) J)) fun h44 => lp (d + 99) 110 999999 126 [some (iR (some 3)), none] [] h44) := fun x I5 hx => by
      have hrun : rn (d + 99) 76 [iR (some 62), iR (some 44), iR (some 4), iR (some 72)] (st h2 I3 J) = some (oI x, st h2 I5 J) := by
        rw [r_Rn_runAll, e_Rn_runAll, ypI (aT_62 s2) (by omega), ypI (aT_62 s2) (by omega), ← eI4]
        exact hx
      rw [r_T_orders, e_T_orders, ygR (aT_3 s) (aR_3_5 s), ygR (aT_3 s) (aR_3_4 s), xB_s, ygR (aT_41 s) (aR_41_0 s), ygR (aT_3 s) (aR_3_4 s), xB_s, ygIv (x := (n : Int)) (aT_41 s) (by rw [t1, en]), xB_s, yck (aT_43 s), e1', kI_o, ygR (aT_3 sg) (aR_3_4 sg), xB_s, ypI (aT_41 sg) (by omega), ypI (aT_3 sg) (by omega), ← eX, if_neg (by omega), ygR (aT_3 sg) (aR_3_1 sg), ygR (aT_3 sg) (aR_3_0 sg), xB_s, yck (aT_16 sg), e2', kV_o, ygR (aT_3 s2) (aR_3_10 s2), ygR (aT_3 s2) (aR_3_9 s2), xB_s, yck (aT_74 s2), hps', kV_o, ygR (aT_3 s2) (aR_3_8 s2), ygR (aT_3 s2) (aR_3_5 s2), xB_s, ygR (aT_43 s2) (aR_43_0 s2), ygR (aT_3 s2) (aR_3_0 s2), ygR (aT_3 s2) (aR_3_9 s2), xB_s, yck (aT_62 s2), hrun, kI_o, ypI (aT_3 s2) (by omega), ygIv (x := x) (aT_3 s2) (up_eq _ _ _ _)]
    cases et : textS L0 nt CL cc 0 S0 with
    | inr S' =>
      obtain ⟨I5, ⟨so5, s113⟩, o5, to5, e5⟩ := T2 S' et
      obtain ⟨Y, eY⟩ : ∃ Y, Y = up (up I5 3 17 (-1)) 3 15 0 := ⟨_, rfl⟩
      have hT1 : rn (d + 100) 110 [iR (some 3)] (st h I J) = some (oI S'.2.1, st h2 Y J) := by
        rw [hin (-1) I5 e5, if_pos rfl, ygR (aT_3 s2) (aR_3_8 s2), xB_s, ygIv (x := S'.2.1) (aT_62 s2) (by rw [up_na (by omega)]; exact to5.2.1.1), yck (aT_3 s2), s_taken (d := d + 98) s2, kI_o, ← eY]
      have y5 : ∀ b, b ≠ 3 → Y b = I5 b := fun b hb => by rw [eY, up_na hb, up_na hb]
      have yI : ∀ b, (b < 3 ∨ (26 < b ∧ b < 41) ∨ b = 42 ∨ (50 < b ∧ b < 62) ∨ 75 < b) → Y b = I b := fun b hb => by rw [y5 b (by omega), o5 b (by omega) (by omega), i4I b (by omega)]
      have y3 : ∀ i, Y 3 i = if i = 15 then 0 else if i = 17 then -1 else I 3 i := fun i => by
        rw [eY, up_at, up_at, o5 3 (by omega) (by omega), i4o 3 (by omega), i3o 3 (by omega) (by omega), i2o 3 (by omega), x3]
        by_cases z : i = 15
        · rw [if_pos z, if_pos z]
        · rw [if_neg z, if_neg z]
          by_cases z2 : i = 17
          · rw [if_pos z2, if_pos z2]
          · rw [if_neg z2, if_neg z2]
      obtain ⟨A, a1, a2, a3, a4, a5, ⟨a6, a7, a8⟩, ⟨a9, a10, a11⟩, a12⟩ := m_ordIn (d := d + 48) (h := h2) (J := J) (B := I 42) (n := n) (c := Kt) m2 hB hn tE (Y := Y) (by rw [yI 88 (by omega)]; exact en) (fun i => by rw [yI 94 (by omega)]; exact ww i) (fun i _ => by rw [yI 95 (by omega)]; exact (t4 i).2) ex (kp := (kp : Int)) (by rw [yI 88 (by omega)]; exact b5)
      have a90 : A 90 = K1 := by rw [a3, yI 90 (by omega), eK1]
      have roA : RO A S0 := by
        rw [eS0]
        refine ⟨a90, ⟨a6, a7⟩, by rw [a12 31 (by omega), yI 88 (by omega)]; exact b5, fun i j hi hj => ?_⟩
        rw [a2 101 (by omega) (by omega) (by omega) (by omega) (by omega) (by omega) (by omega), yI 101 (by omega)]
        show _ = H i j
        rw [eH]
        rfl
      obtain ⟨-, -, mt⟩ := m_textA (d := d + 48) (h := h2) (o := 2400) (nt := nt) (L := L0) (LW := LW) m2 tE ex
      obtain ⟨-, mt2⟩ := mt A J S0 (998172 - n) (kp : Int) roA so0 (by rw [eS0]; show EvR _ _ _ _ K1; rw [eK1]; exact lay6_ev (by omega)) (by omega) (by rw [a8]; rfl)
      obtain ⟨I6, J6, g1, g2, g3⟩ := mt2 S' et
      rw [show 998172 - n + n + 2 = 998174 by omega] at g3
      obtain ⟨Z, eZ⟩ : ∃ Z, Z = up I6 88 0 0 := ⟨_, rfl⟩
      rw [← eZ] at g3
      have hM : rn (d + 100) 279 [iR (some 88)] (st h2 Y J) = some (oI S'.2.1, st h2 Z J6) := by
        refine Eq.trans a1 ?_
        exact g3
      have zY : ∀ b, (b < 88 ∨ b = 89 ∨ b = 91 ∨ b = 92 ∨ b = 94 ∨ b = 95 ∨ b = 96 ∨ 103 < b) → Z b = Y b := fun b hb => by rw [eZ, up_na (by omega), g1.1 b (by omega) (by omega) (by omega) (by omega) (by omega), a2 b (by omega) (by omega) (by omega) (by omega) (by omega) (by omega) (by omega)]
      have zI : ∀ b, (b < 3 ∨ (26 < b ∧ b < 41) ∨ b = 42 ∨ (50 < b ∧ b < 62) ∨ (75 < b ∧ b < 88) ∨ b = 89 ∨ b = 91 ∨ b = 92 ∨ b = 94 ∨ b = 95 ∨ 103 < b) → Z b = I b := fun b hb => by rw [zY b (by omega), yI b (by omega)]
      have z88 : ∀ i, (i < 22 ∨ (31 < i ∧ i < 48) ∨ 52 < i) → Z 88 i = if i = 0 then 0 else A 88 i := fun i hi => by rw [eZ, up_at, g1.2.1 i (by omega)]
      have z90 : Z 90 = S'.1 := by rw [eZ, up_na (by omega)]; exact g2.1
      have e83 : S'.1 183 = (nt : Int) := so5.1.2.2.2
      have z5 : ∀ b, ((4 ≤ b ∧ b < 88) ∨ 118 ≤ b) → Z b = I5 b := fun b hb => by rw [zY b (by omega), y5 b (by omega)]
      refine ⟨S'.2.1, h2, Y, J, h2, Z, J6, hT1, hM, ⟨⟨by rw [hT2]; exact v.sc.1, by rw [hL2]; exact v.sc.2.1, by rw [yI 0 (by omega)]; exact v.sc.2.2⟩, m2⟩, Inv.gen4 u1 u3 u6 u8 u9 hk s2 hT2 hL2 (by rw [p3, gN]) (by rw [p4, gS]) hR2 (fun b hb => zI b (by omega)) (by rw [z88 55 (by omega), if_neg (by omega), a12 55 (by omega), yI 88 (by omega)]) ?_ ?_ ⟨?_, ?_, ?_, ?_⟩ ?_⟩
      · obtain ⟨⟨q1, q2, q3⟩, q4, q5⟩ := u7
        unfold IvR
        rw [zI 87 (by omega), zI 89 (by omega), zY 3 (by omega), y3, y3, y3, z88 0 (by omega), z88 6 (by omega), z88 47 (by omega), if_pos rfl, if_pos rfl, if_neg (by omega), if_neg (by omega), if_neg (by omega), if_neg (by omega), if_pos rfl, if_neg (by omega), a9, a12 6 (by omega), yI 88 (by omega)]
        exact ⟨⟨rfl, q2, rfl⟩, q4, fun j hj => by have := q5 j hj; omega⟩
      · rw [z90]
        refine ⟨⟨LW, to5.1.tr (fun b q1 q2 => z5 b (by omega)) rfl (fun j x hx b q1 q2 => ⟨rfl, rfl, rfl, z5 b (by have := hw2 j x hx; omega)⟩), so5.1.1, so5.1.2.1⟩, fun j x hx => ?_⟩
        have hx' : hR h2 15 j = some x := hx
        rw [hR2 15 (by omega) (by omega)] at hx'
        rw [hT2, p3, gN]
        exact hw j x hx'
      · rw [z5 41 (by omega), o5 41 (by omega) (by omega), i4o 41 (by omega), i3o 41 (by omega) (by omega), i2o 41 (by omega), x41, z88 13 (by omega), if_neg (by omega), a10]
        omega
      · rw [zI 42 (by omega), zI 95 (by omega)]
        exact t4
      · rw [z5 43 (by omega), o5 43 (by omega) (by omega), i4I1 43 (by omega) (by omega), z88 14 (by omega), if_neg (by omega), a11]
        exact r4
      · have := r11
        unfold StOk at *
        rw [z5 45 (by omega), o5 45 (by omega) (by omega), i4I1 45 (by omega) (by omega), z5 46 (by omega), o5 46 (by omega) (by omega), i4I1 46 (by omega) (by omega)]
        exact this
      · obtain ⟨tq0, tq1, nx', tq2, tq3, tq4⟩ := to5.2.2
        unfold IvP
        rw [z90, e83, z5 72 (by omega), z5 73 (by omega)]
        refine ⟨S'.2.2.2.1, nx', tq0, tq2, tq1, tq3, ?_, fun i hi => (tq4 i hi).cg (fun _ _ => rfl) (fun j hj => ?_) (by have := so5.1.1.1; omega)⟩
        · rw [eZ, up_ni (by omega)]
          exact g2.2.2.1
        · show Z 101 (114 * i + j) = _
          rw [eZ, up_na (by omega)]
          exact g2.2.2.2 i j hi hj
    | inl ci =>
      obtain ⟨I5, K', hci, o5, r5', e5⟩ := T1 ci et
      obtain ⟨X2, eX2⟩ : ∃ X2, X2 = up I5 3 17 (ci : Int) := ⟨_, rfl⟩
      have x2o5 : ∀ b, b ≠ 3 → X2 b = I5 b := fun b hb => by rw [eX2, up_na hb]
      have x2o : ∀ b, (16 ≤ b ∧ b ≤ 26) → X2 b = I2 b := fun b hb => by rw [x2o5 b (by omega), o5 b (by omega) (by omega), i4o b (by omega), i3o b (by omega) (by omega)]
      obtain ⟨h5, I6, ⟨⟨v1, v2, v3, v4⟩, v5, v6, v7⟩, cq, e6⟩ := s_cpF (d := d + 98) (I := X2) (J := J) (h := h2) (a := 4) (b := 16) (ShT_4 s2) s2.2.2.2.2.1 (aT_1 s2) (aL_1 s2) (by omega) (fun j z hj hz => by
        rw [p6 j hj, gR 15 (by omega)] at hz
        have := hw j z hz
        rw [hT2]
        exact ⟨this.1, by have := this.2.1; omega⟩)
      have e6' : rn (d + 99) 9 [iR (some 4), iR (some 16)] (st h2 X2 J) = some (o0, st h5 I6 J) := e6
      have hR5 : ∀ b, hR h5 b = hR h2 b := fun b => by
        by_cases z : b = 15
        · rw [z]
          funext j
          by_cases jj : j < 6
          · have := v6 j jj
            rw [p6 j jj] at this
            exact this.trans (by rw [p5 15 (by omega)])
          · exact v7 j (by omega)
        · exact v5 b (by omega)
      have s5 : ShT h5 := s2.R (r := 15) (by omega) v1 v2 (fun b _ => hR5 b)
      have hT5 : hT h5 = hT h := by rw [v1, hT2]
      have hL5 : hL h5 = hL h := by rw [v2, hL2]
      have hR5' : ∀ b, b ≠ 43 → b ≠ 27 → hR h5 b = hR h b := fun b q1 q2 => by rw [hR5 b, hR2 b q1 q2]
      have m5 : ShM h5 88 := ShM_R m ⟨hT5, hL5⟩ (hR5' 88 (by omega) (by omega))
      have i6o : ∀ b, (b < 4 ∨ 14 < b) → I6 b = X2 b := fun b hb => cq.1 b (by omega)
      have hps5 := s_psC (d := d + 98) (h := h5) (I := I6) (J := J) (a := 72) (b := 74) (ShT_72 s5) s5.2.2.2.2.2.2.2.2.2.2.2.2.2.1 (by omega)
      obtain ⟨I7, eI7⟩ : ∃ I7, I7 = cpy (up (up I6 72 0 (I6 74 0)) 72 1 (I6 74 1)) 75 0 73 0 1224 := ⟨_, rfl⟩
      have hps5' : rn (d + 99) 48 [iR (some 72), iR (some 74)] (st h5 I6 J) = some (o0, st h5 I7 J) := by
        rw [eI7]
        exact hps5
      have i7o : ∀ b, b ≠ 72 → b ≠ 73 → I7 b = I6 b := fun b q1 q2 => by rw [eI7, cpy_na q2, up_na q1, up_na q1]
      have i674 : I6 74 = I3 74 := by rw [i6o 74 (by omega), x2o5 74 (by omega), o5 74 (by omega) (by omega), i4o 74 (by omega)]
      have i675 : I6 75 = I3 75 := by rw [i6o 75 (by omega), x2o5 75 (by omega), o5 75 (by omega) (by omega), i4o 75 (by omega)]
      have x720 : I7 72 0 = I 72 0 := by rw [eI7, cpy_na (by omega), up_ni (by omega), up_eq, i674, eI3, cpy_na (by omega), up_ni (by omega), up_eq, i2o 72 (by omega), xo 72 (by omega)]
      have x721 : I7 72 1 = I 72 1 := by rw [eI7, cpy_na (by omega), up_eq, i674, eI3, cpy_na (by omega), up_eq, i2o 72 (by omega), xo 72 (by omega)]
      have x73 : ∀ i, i < 1224 → I7 73 i = I 73 i := fun i hi => by rw [eI7, cpy_at (by omega), up_na (by omega), up_na (by omega), i675, eI3, cpy_at (by omega), up_na (by omega), up_na (by omega), i2o 73 (by omega), xo 73 (by omega), show 0 + (0 + (i - 0) - 0) = i by omega]
      have rfv : RfV (-3) := by unfold RfV; omega
      have hb := v.b87 rfv
      have i7I : ∀ b, (b < 3 ∨ (26 < b ∧ b < 41) ∨ b = 42 ∨ (50 < b ∧ b < 62) ∨ 75 < b) → I7 b = I b := fun b hb => by rw [i7o b (by omega) (by omega), i6o b (by omega), x2o5 b (by omega), o5 b (by omega) (by omega), i4I b (by omega)]
      obtain ⟨Y, eY⟩ : ∃ Y, Y = refT (-3) I7 := ⟨_, rfl⟩
      have hT1 : rn (d + 100) 110 [iR (some 3)] (st h I J) = some (oI (-3), st h5 Y J) := by
        rw [hin (ci : Int) I5 e5, if_neg (by omega), ygR (aT_3 s2) (aR_3_0 s2), ygR (aT_3 s2) (aR_3_1 s2), xB_s, yck (aT_4 s2), ← eX2, e6', kV_o, e_T_orders_126, ygR (aT_3 s5) (aR_3_9 s5), ygR (aT_3 s5) (aR_3_10 s5), xB_s, yck (aT_72 s5), hps5', kV_o, yck (aT_3 s5), s_refT (d := d + 98) s5 (x := -3) rfv (by rw [i7I 87 (by omega)]; exact hb.1), kI_o, ← eY]
      have y7 : ∀ b, b ≠ 3 → b ≠ 87 → Y b = I7 b := fun b q1 q2 => by rw [eY, refT_n q1 q2]
      have yI : ∀ b, (b < 3 ∨ (26 < b ∧ b < 41) ∨ b = 42 ∨ (50 < b ∧ b < 62) ∨ (75 < b ∧ b < 87) ∨ 87 < b) → Y b = I b := fun b hb => by rw [y7 b (by omega) (by omega), i7I b (by omega)]
      have y3 : ∀ i, Y 3 i = if i = 15 then -3 else if i = 17 then (ci : Int) else I 3 i := fun i => by
        rw [eY]
        unfold refT
        rw [up_na (by omega), up_at, i7o 3 (by omega) (by omega), i6o 3 (by omega), eX2, up_at, o5 3 (by omega) (by omega), i4o 3 (by omega), i3o 3 (by omega) (by omega), i2o 3 (by omega), x3]
        by_cases z : i = 15
        · rw [if_pos z, if_pos z]
        · rw [if_neg z, if_neg z]
          by_cases z2 : i = 17
          · rw [if_pos z2, if_pos z2]
          · rw [if_neg z2, if_neg z2, if_neg z2]
      obtain ⟨A, a1, a2, a3, a4, a5, ⟨a6, a7, a8⟩, ⟨a9, a10, a11⟩, a12⟩ := m_ordIn (d := d + 48) (h := h5) (J := J) (B := I 42) (n := n) (c := Kt) m5 hB hn tE (Y := Y) (by rw [yI 88 (by omega)]; exact en) (fun i => by rw [yI 94 (by omega)]; exact ww i) (fun i _ => by rw [yI 95 (by omega)]; exact (t4 i).2) ex (kp := (kp : Int)) (by rw [yI 88 (by omega)]; exact b5)
      have a90 : A 90 = K1 := by rw [a3, yI 90 (by omega), eK1]
      have roA : RO A S0 := by
        rw [eS0]
        refine ⟨a90, ⟨a6, a7⟩, by rw [a12 31 (by omega), yI 88 (by omega)]; exact b5, fun i j hi hj => ?_⟩
        rw [a2 101 (by omega) (by omega) (by omega) (by omega) (by omega) (by omega) (by omega), yI 101 (by omega)]
        show _ = H i j
        rw [eH]
        rfl
      obtain ⟨-, -, mt⟩ := m_textA (d := d + 48) (h := h5) (o := 2400) (nt := nt) (L := L0) (LW := LW) m5 tE ex
      obtain ⟨mt2, -⟩ := mt A J S0 (998172 - n) (kp : Int) roA so0 (by rw [eS0]; show EvR _ _ _ _ K1; rw [eK1]; exact lay6_ev (by omega)) (by omega) (by rw [a8]; rfl)
      obtain ⟨I8, J6, ff, g1, g2, g3⟩ := mt2 ci et
      rw [show 998172 - n + n + 2 = 998174 by omega] at g3
      obtain ⟨I9, eI9⟩ : ∃ I9, I9 = cpy I8 93 113 90 0 113 := ⟨_, rfl⟩
      obtain ⟨C2, eC2⟩ : ∃ C2, C2 = cpy I9 102 0 101 0 1824 := ⟨_, rfl⟩
      obtain ⟨Z1, eZ1⟩ : ∃ Z1, Z1 = up (up C2 88 31 (kp : Int)) 88 47 (ci : Int) := ⟨_, rfl⟩
      obtain ⟨Z, eZ⟩ : ∃ Z, Z = refM (-3) Z1 := ⟨_, rfl⟩
      have i9o : ∀ b, b ≠ 90 → I9 b = I8 b := fun b hb => by rw [eI9, cpy_na hb]
      have c2o : ∀ b, b ≠ 101 → C2 b = I9 b := fun b hb => by rw [eC2, cpy_na hb]
      have z1o : ∀ b, b ≠ 88 → Z1 b = C2 b := fun b hb => by rw [eZ1, up_na hb, up_na hb]
      have zZ1 : ∀ b, b ≠ 88 → b ≠ 89 → Z b = Z1 b := fun b q1 q2 => by rw [eZ]; unfold refM; rw [up_na q2, up_na q1]
      have z1Y : ∀ b, (b < 88 ∨ b = 89 ∨ b = 91 ∨ b = 92 ∨ b = 94 ∨ b = 95 ∨ b = 96 ∨ 103 < b) → Z1 b = Y b := fun b hb => by rw [z1o b (by omega), c2o b (by omega), i9o b (by omega), g1.1 b (by omega) (by omega) (by omega) (by omega) (by omega), a2 b (by omega) (by omega) (by omega) (by omega) (by omega) (by omega) (by omega)]
      have hM : rn (d + 100) 279 [iR (some 88)] (st h5 Y J) = some (oI (-3), st h5 Z J6) := by
        refine Eq.trans a1 ?_
        refine Eq.trans g3 ?_
        have h123 := l_123 (d := d + 99) (h := h5) (J := J6) m5 (kp : Int) (ci : Int) 1824 0 (ff - 1825) I9 rfl
        rw [show ff - 1825 + 1824 + 1 = ff by omega, ← eC2] at h123
        have h123' : lp (d + 48 + 51) 279 ff 123 [some (iR (some 88)), some (iI (kp : Int)), none, some (iI (ci : Int)), some (iI 0)] [] (st h5 I9 J6) = _ := h123
        have tb := m_takeb1 (d := d + 98) (h := h5) (I := I8) (J := J6) m5
        have tb' : rn (d + 48 + 51) 157 [iR (some 88), iI 1] (st h5 I8 J6) = _ := tb
        rw [tb', kV_o, ← eI9, h123', e_M_orders_123, if_neg (by omega), ypI (bT_88 m5) (by omega), ypI (bT_88 m5) (by omega), ← eZ1, yck (bT_88 m5), s_refM (d := d + 98) m5 (x := -3) rfv (by rw [z1Y 89 (by omega), yI 89 (by omega)]; exact hb.2), kI_o, ← eZ]
      have zY : ∀ b, (b < 88 ∨ b = 91 ∨ b = 92 ∨ b = 94 ∨ b = 95 ∨ b = 96 ∨ 103 < b) → Z b = Y b := fun b hb => by rw [zZ1 b (by omega) (by omega), z1Y b (by omega)]
      have zI : ∀ b, (b < 3 ∨ (26 < b ∧ b < 41) ∨ b = 42 ∨ (50 < b ∧ b < 62) ∨ (75 < b ∧ b < 87) ∨ b = 91 ∨ b = 92 ∨ b = 94 ∨ b = 95 ∨ 103 < b) → Z b = I b := fun b hb => by rw [zY b (by omega), yI b (by omega)]
      have z880 : Z 88 0 = -3 := by rw [eZ]; unfold refM; rw [up_na (by omega), up_eq]
      have z88 : ∀ i, i ≠ 0 → (i < 22 ∨ (30 < i ∧ i < 48) ∨ 52 < i) → Z 88 i = if i = 47 then (ci : Int) else if i = 31 then (kp : Int) else A 88 i := fun i q hi => by
        rw [eZ]
        unfold refM
        rw [up_na (by omega), up_ni q, eZ1, up_at, up_at]
        by_cases w : i = 47
        · rw [if_pos w, if_pos w]
        rw [if_neg w, if_neg w]
        by_cases w2 : i = 31
        · rw [if_pos w2, if_pos w2]
        · rw [if_neg w2, if_neg w2, c2o 88 (by omega), i9o 88 (by omega), g1.2.1 i (by omega)]
      have z90 : Z 90 = K1 := by
        funext i
        rw [zZ1 90 (by omega) (by omega), z1o 90 (by omega), c2o 90 (by omega), eI9]
        by_cases q : i < 113
        · rw [cpy_at (by omega), g1.1 93 (by omega) (by omega) (by omega) (by omega) (by omega), a4 _ (by omega), yI 90 (by omega), k1o i (by omega), show i - 0 = i by omega]
        · rw [cpy_of (by omega), g1.2.2 i (by omega), a90]
      have z101 : ∀ i, i < 1824 → Z 101 i = I 101 i := fun i hi => by
        rw [zZ1 101 (by omega) (by omega), z1o 101 (by omega), eC2, cpy_at (by omega), i9o 102 (by omega), g1.1 102 (by omega) (by omega) (by omega) (by omega) (by omega), a5 _ (by omega), yI 101 (by omega), show 0 + (i - 0) = i by omega]
      have g87 : ∀ i, Z 87 i = if i = plc (-3) then I 87 (plc (-3)) + 1 else I 87 i := fun i => by rw [zY 87 (by omega), eY, refT_87, i7I 87 (by omega)]
      have g89 : ∀ i, Z 89 i = if i = (-(-3 : Int)).toNat then I 89 (-(-3 : Int)).toNat + 1 else I 89 i := fun i => by rw [eZ]; unfold refM; rw [up_at, up_na (by omega), z1Y 89 (by omega), yI 89 (by omega)]
      have c3 : CpL3 I6 X2 I 4 4 := by
        obtain ⟨q0, qa, q1, q2, q3, q4, q5, q6, q7, q8, q9, q10⟩ := cq
        obtain ⟨w0, wa, w1, w2, w3, w4, w5, w6, w7, w8, w9, w10⟩ := cp
        refine ⟨fun i => ?_, fun i => ?_, fun i => ?_, fun i => ?_, fun i => ?_, fun i => ?_, fun i => ?_, fun i => ?_, fun i => ?_, fun i => ?_, fun i => ?_⟩
        · rw [qa i]
          by_cases z : i = 0 ∨ i = 11 ∨ i = 13 ∨ i = 14
          · rw [if_pos z, if_pos z, x2o 16 (by omega), wa i, if_pos z, xo 4 (by omega)]
          · rw [if_neg z, if_neg z]
        · rw [q1 i]
          by_cases z : i < 7
          · rw [if_pos z, if_pos z, x2o (16 + 1) (by omega), (show I2 (16 + 1) i = _ from w1 i), if_pos z, xo (4 + 1) (by omega)]
          · rw [if_neg z, if_neg z]
        · rw [q2 i]
          by_cases z : i < 7
          · rw [if_pos z, if_pos z, x2o (16 + 2) (by omega), (show I2 (16 + 2) i = _ from w2 i), if_pos z, xo (4 + 2) (by omega)]
          · rw [if_neg z, if_neg z]
        · rw [q3 i]
          by_cases z : i < 7
          · rw [if_pos z, if_pos z, x2o (16 + 3) (by omega), (show I2 (16 + 3) i = _ from w3 i), if_pos z, xo (4 + 3) (by omega)]
          · rw [if_neg z, if_neg z]
        · rw [q4 i]
          by_cases z : i < 7
          · rw [if_pos z, if_pos z, x2o (16 + 4) (by omega), (show I2 (16 + 4) i = _ from w4 i), if_pos z, xo (4 + 4) (by omega)]
          · rw [if_neg z, if_neg z]
        · rw [q5 i]
          by_cases z : i < 49
          · rw [if_pos z, if_pos z, x2o (16 + 5) (by omega), (show I2 (16 + 5) i = _ from w5 i), if_pos z, xo (4 + 5) (by omega)]
          · rw [if_neg z, if_neg z]
        · rw [q6 i]
          by_cases z : i < 49
          · rw [if_pos z, if_pos z, x2o (16 + 6) (by omega), (show I2 (16 + 6) i = _ from w6 i), if_pos z, xo (4 + 6) (by omega)]
          · rw [if_neg z, if_neg z]
        · rw [q7 i]
          by_cases z : i < 7
          · rw [if_pos z, if_pos z, x2o (16 + 7) (by omega), (show I2 (16 + 7) i = _ from w7 i), if_pos z, xo (4 + 7) (by omega)]
          · rw [if_neg z, if_neg z]
        · rw [q8 i]
          by_cases z : i < 3
          · rw [if_pos z, if_pos z, x2o (16 + 8) (by omega), (show I2 (16 + 8) i = _ from w8 i), if_pos z, xo (4 + 8) (by omega)]
          · rw [if_neg z, if_neg z]
        · rw [q9 i]
          by_cases z : i < 6
          · rw [if_pos z, if_pos z, x2o (16 + 9) (by omega), (show I2 (16 + 9) i = _ from w9 i), if_pos z, xo (4 + 9) (by omega)]
          · rw [if_neg z, if_neg z]
        · rw [q10 i]
          by_cases z : i < 6
          · rw [if_pos z, if_pos z, x2o (16 + 10) (by omega), (show I2 (16 + 10) i = _ from w10 i), if_pos z, xo (4 + 10) (by omega)]
          · rw [if_neg z, if_neg z]
      have l5 : LdR X2 4 := r5'.ldr.fr fun b q1 q2 => x2o5 b (by omega)
      have r6 : RL h5 I6 4 (I 90) LW := r.copy3 c3 l5 (fun j hj => by rw [hR5' (4 + 11) (by omega) (by omega)]) (by omega) (fun j x hj hx b q1 q2 => by
        have := (hw j x hx).2.1
        exact ⟨by rw [hT5], by rw [hL5], hR5' b (by omega) (by omega), by rw [i6o b (by omega), x2o5 b (by omega), o5 b (by omega) (by omega), i4I b (by omega)]⟩) (i6o 15 (by omega))
      have z6 : ∀ b, ((4 ≤ b ∧ b < 72) ∨ 118 ≤ b) → Z b = I6 b := fun b hb => by rw [zY b (by omega), y7 b (by omega) (by omega), i7o b (by omega) (by omega)]
      refine ⟨-3, h5, Y, J, h5, Z, J6, hT1, hM, ⟨⟨by rw [hT5]; exact v.sc.1, by rw [hL5]; exact v.sc.2.1, by rw [yI 0 (by omega)]; exact v.sc.2.2⟩, m5⟩, Inv.gen4 u1 u3 u6 u8 u9 hk s5 hT5 hL5 (by rw [v3, p3, gN]) (by rw [v4, p4, gS]) hR5' (fun b hb => zI b (by omega)) (by rw [z88 55 (by omega) (by omega), if_neg (by omega), if_neg (by omega), a12 55 (by omega), yI 88 (by omega)]) (u7.ref rfv (by rw [zY 3 (by omega), y3, z880, if_pos rfl]) (by rw [zY 3 (by omega), y3, z88 6 (by omega) (by omega), if_neg (by omega), if_neg (by omega), if_neg (by omega), if_neg (by omega), a12 6 (by omega), yI 88 (by omega)]; exact u7.1.2.1) (by rw [zY 3 (by omega), y3, z88 47 (by omega) (by omega), if_neg (by omega), if_pos rfl, if_pos rfl]) g87 g89) ?_ ⟨?_, ?_, ?_, ?_⟩ ?_⟩
      · rw [z90]
        refine ⟨⟨LW, (r6.lt kk fun i hi => k1o i (by omega)).tr (fun b q1 q2 => z6 b (by omega)) rfl (fun j x hx b q1 q2 => ?_), kk1, hA1⟩, fun j x hx => ?_⟩
        · have hx' : hR h5 15 j = some x := hx
          rw [hR5' 15 (by omega) (by omega)] at hx'
          exact ⟨rfl, rfl, rfl, z6 b (by have := (hw j x hx').2.1; omega)⟩
        · have hx' : hR h5 15 j = some x := hx
          rw [hR5' 15 (by omega) (by omega)] at hx'
          rw [hT5, v3, p3, gN]
          exact hw j x hx'
      · rw [z6 41 (by omega), i6o 41 (by omega), x2o5 41 (by omega), o5 41 (by omega) (by omega), i4o 41 (by omega), i3o 41 (by omega) (by omega), i2o 41 (by omega), x41, z88 13 (by omega) (by omega), if_neg (by omega), if_neg (by omega), a10]
        omega
      · rw [zI 42 (by omega), zI 95 (by omega)]
        exact t4
      · rw [z6 43 (by omega), i6o 43 (by omega), x2o5 43 (by omega), o5 43 (by omega) (by omega), i4I1 43 (by omega) (by omega), z88 14 (by omega) (by omega), if_neg (by omega), if_neg (by omega), a11]
        exact r4
      · have := r11
        unfold StOk at *
        rw [z6 45 (by omega), i6o 45 (by omega), x2o5 45 (by omega), o5 45 (by omega) (by omega), i4I1 45 (by omega) (by omega), z6 46 (by omega), i6o 46 (by omega), x2o5 46 (by omega), o5 46 (by omega) (by omega), i4I1 46 (by omega) (by omega)]
        exact this
      · unfold IvP
        rw [z90, k1o 183 (by omega), zY 72 (by omega), y7 72 (by omega) (by omega), zY 73 (by omega), y7 73 (by omega) (by omega)]
        refine ⟨kp, nx, b1, b2, by rw [x720]; exact b3, by rw [x721]; exact b4, by rw [z88 31 (by omega) (by omega), if_neg (by omega), if_pos rfl], fun i hi => (b6 i hi).cg (fun j hj => ?_) (fun j hj => ?_) k1.2⟩
        · show I7 73 (72 * ((nx + 17 - kp + i) % 17) + j) = I 73 _
          exact x73 _ (by omega)
        · show Z 101 (114 * i + j) = I 101 _
          exact z101 _ (by omega)
end P98zd
