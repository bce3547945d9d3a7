/-! How all stands behind both constructors (by program, wip/whole/gen38.py) -/
def Start (L : Nat) (xs : Nat → Int32) (h : IH) (I J : Nat → Nat → Int) : Prop := ShT h ∧ ShM h 88 ∧ hN h = 118 ∧ hS h ≤ 100000 ∧ (hT h 0 = 0 ∧ hL h 0 = L ∧ I 0 = fun i => (xs i).toInt) ∧ I 1 = z0M ∧ (∀ i, hR h 15 i = none) ∧ ((∀ i, hR h 40 i = none) ∧ hR h 83 6 = none) ∧ (∀ b, 3 ≤ b → b < 88 → I b = startT b) ∧ (∀ b, 88 ≤ b → b < 118 → I b = startM b) ∧ (∀ b, 3 ≤ b → b < 118 → J b = fun _ => 0)
theorem ShT_tr {h h' : IH} (hs : ShT h) (q : ∀ b, b < 88 → hT h' b = hT h b ∧ hL h' b = hL h b ∧ hR h' b = hR h b) : ShT h' := by
  obtain ⟨⟨g1, g2⟩, g3, g4, g5, g6, g7, ⟨g8, g9⟩, g10, g11, g12, g13, g14, g15, g16, g17, g18, ⟨g19, g20⟩, g21, g22⟩ := hs
  have q3 := (q 3 (by omega)).2.2
  refine ⟨⟨by rw [(q 1 (by omega)).1, g1], by rw [(q 1 (by omega)).2.1, g2]⟩, by rw [(q 3 (by omega)).1, g3], by rw [q3]; exact g4, La_tr g5 fun b b1 b2 => q b (by omega), La_tr g6 fun b b1 b2 => q b (by omega), La_tr g7 fun b b1 b2 => q b (by omega), ⟨by rw [(q 40 (by omega)).1, g8], by rw [(q 40 (by omega)).2.1, g9]⟩, Tp_tr g10 fun b b1 b2 => q b (by omega), Rd_tr g11 fun b b1 b2 => q b (by omega), Ju_tr g12 fun b b1 b2 => q b (by omega), Mo_tr g13 fun b b1 b2 => q b (by omega), Rn_tr g14 fun b b1 b2 => q b (by omega), Ps_tr g15 fun b b1 b2 => q b (by omega), Ps_tr g16 fun b b1 b2 => q b (by omega), Pa_tr g17 fun b b1 b2 => q b (by omega), Wh_tr g18 fun b b1 b2 => q b (by omega), ⟨by rw [(q 86 (by omega)).1, g19], by rw [(q 86 (by omega)).2.1, g20]⟩, by rw [(q 87 (by omega)).1, g21], by rw [(q 87 (by omega)).2.1, g22]⟩
theorem s_start (d n L : Nat) (xs : Nat → Int32) : ∃ (h : IH) (I J : Nat → Nat → Int), lpL (d + 6) (n + 1) 0 [some (iR (some 0)), none, none, none] [] (z0 L xs) = lpL (d + 6) n 18 [some (iR (some 0)), some (iR (some 3)), some (iR (some 88)), some (iI 0)] [] (st h I J) ∧ Start L xs h I J := by
  have e0 : z0 L xs = st (z0 L xs) (z0I xs) (fun _ _ => 0) := rfl
  obtain ⟨h1, I1, J1, e1, k1, n1, z1, s1, a1, b1, c1, d1, r1⟩ := c_T (d := d) (h := mkc (z0 L xs) 3 21 18) (I := clr (z0I xs) 3) (J := clr (fun _ _ => 0) 3) (by rw [mkc_Tn (by omega)]; rfl) (by rw [mkc_Ln (by omega)]; rfl) (mkc_Te _) rfl clr_e
  obtain ⟨h2, I2, J2, e2, k2, n2, z2, s2, c2, r2, y2⟩ := c_M (d := d + 5) (h := mkc h1 88 22 57) (I := clr I1 88) (J := clr J1 88) (mkc_Te _) rfl clr_e
  have q : ∀ b, b < 88 → hT h2 b = hT h1 b ∧ hL h2 b = hL h1 b ∧ hR h2 b = hR h1 b ∧ I2 b = I1 b ∧ J2 b = J1 b := by
    intro b hb
    obtain ⟨x1, x2, x3, x4, x5⟩ := k2 b hb
    rw [mkc_Tn (by omega)] at x1
    rw [mkc_Ln (by omega)] at x2
    rw [mkc_Rn (by omega)] at x3
    rw [clr_n (by omega)] at x4 x5
    exact ⟨x1, x2, x3, x4, x5⟩
  have p : ∀ b, b < 3 → hT h2 b = z0T b ∧ hL h2 b = z0L L b ∧ I2 b = z0I xs b := by
    intro b hb
    obtain ⟨x1, x2, x3, x4, x5⟩ := k1 b hb
    rw [mkc_Tn (by omega)] at x1
    rw [mkc_Ln (by omega)] at x2
    rw [clr_n (by omega)] at x4
    have y := q b (by omega)
    exact ⟨y.1.trans x1, y.2.1.trans x2, y.2.2.2.1.trans x4⟩
  refine ⟨h2, I2, J2, ?_, ShT_tr s1 fun b hb => ⟨(q b hb).1, (q b hb).2.1, (q b hb).2.2.1⟩, s2, n2, ?_, ⟨(p 0 (by omega)).1, (p 0 (by omega)).2.1, (p 0 (by omega)).2.2⟩, (p 1 (by omega)).2.2, fun i => by rw [(q 15 (by omega)).2.2.1]; exact a1 i, ⟨fun i => by rw [(q 40 (by omega)).2.2.1]; exact b1.1 i, by rw [(q 83 (by omega)).2.2.1]; exact b1.2⟩, ?_, r2, ?_⟩
  · rw [e0, e_Law_law, cOb (show hN (z0 L xs) = 3 from rfl) (show 10 + 11 = 21 from rfl) (show am_nf 11 = 18 from rfl), e1, kV_o, cOb n1 (show 10 + 12 = 22 from rfl) (show am_nf 12 = 57 from rfl)]
    have e2' : rn (d + 6) 155 [iR (some 88)] (st (mkc h1 88 22 57) (clr I1 88) (clr J1 88)) = some (o0, st h2 I2 J2) := e2
    rw [e2', kV_o]
  · have t1 : hS (mkc h1 88 22 57) = hS h1 + 57 := rfl
    have t2 : hS (mkc (z0 L xs) 3 21 18) = 18 := rfl
    omega
  · intro b b1' b2'
    rw [(q b b2').2.2.2.1]
    by_cases z : b = 3
    · subst z
      exact d1
    · exact (r1 b (by omega) b2').1
  · intro b b1' b2'
    by_cases z : b < 88
    · rw [(q b z).2.2.2.2]
      by_cases y : b = 3
      · subst y
        rw [c1]
        exact clr_e
      · exact (r1 b (by omega) z).2
    · by_cases y : b = 88
      · subst y
        rw [c2]
        exact clr_e
      · exact y2 b (by omega) b2'
section Zz
variable {L : Nat} {xs : Nat → Int32} {h : IH} {I J : Nat → Nat → Int}
theorem z_t1 (s : Start L xs h I J) : hT h 1 = 0 := s.1.1.1
theorem z_l1 (s : Start L xs h I J) : hL h 1 = 3 := s.1.1.2
theorem z_t3 (s : Start L xs h I J) : hT h 3 = 21 := s.1.2.1
theorem z_r3_0 (s : Start L xs h I J) : hR h 3 0 = some 4 := s.1.2.2.1.1
theorem z_r3_1 (s : Start L xs h I J) : hR h 3 1 = some 16 := s.1.2.2.1.2.1
theorem z_r3_2 (s : Start L xs h I J) : hR h 3 2 = some 28 := s.1.2.2.1.2.2.1
theorem z_r3_3 (s : Start L xs h I J) : hR h 3 3 = some 40 := s.1.2.2.1.2.2.2.1
theorem z_r3_4 (s : Start L xs h I J) : hR h 3 4 = some 41 := s.1.2.2.1.2.2.2.2.1
theorem z_r3_5 (s : Start L xs h I J) : hR h 3 5 = some 43 := s.1.2.2.1.2.2.2.2.2.1
theorem z_r3_6 (s : Start L xs h I J) : hR h 3 6 = some 52 := s.1.2.2.1.2.2.2.2.2.2.1
theorem z_r3_7 (s : Start L xs h I J) : hR h 3 7 = some 56 := s.1.2.2.1.2.2.2.2.2.2.2.1
theorem z_r3_8 (s : Start L xs h I J) : hR h 3 8 = some 62 := s.1.2.2.1.2.2.2.2.2.2.2.2.1
theorem z_r3_9 (s : Start L xs h I J) : hR h 3 9 = some 72 := s.1.2.2.1.2.2.2.2.2.2.2.2.2.1
theorem z_r3_10 (s : Start L xs h I J) : hR h 3 10 = some 74 := s.1.2.2.1.2.2.2.2.2.2.2.2.2.2.1
theorem z_r3_11 (s : Start L xs h I J) : hR h 3 11 = some 76 := s.1.2.2.1.2.2.2.2.2.2.2.2.2.2.2.1
theorem z_r3_12 (s : Start L xs h I J) : hR h 3 12 = some 83 := s.1.2.2.1.2.2.2.2.2.2.2.2.2.2.2.2.1
theorem z_r3_13 (s : Start L xs h I J) : hR h 3 13 = some 86 := s.1.2.2.1.2.2.2.2.2.2.2.2.2.2.2.2.2.1
theorem z_r3_14 (s : Start L xs h I J) : hR h 3 14 = some 87 := s.1.2.2.1.2.2.2.2.2.2.2.2.2.2.2.2.2.2
theorem z_t4 (s : Start L xs h I J) : hT h 4 = 11 := La_t (s.1.2.2.2.1)
theorem z_r4_1 (s : Start L xs h I J) : hR h 4 1 = some 5 := La_r1 (s.1.2.2.2.1)
theorem z_t5 (s : Start L xs h I J) : hT h 5 = 0 := La_t1 (s.1.2.2.2.1)
theorem z_l5 (s : Start L xs h I J) : hL h 5 = 7 := La_l1 (s.1.2.2.2.1)
theorem z_r4_2 (s : Start L xs h I J) : hR h 4 2 = some 6 := La_r2 (s.1.2.2.2.1)
theorem z_t6 (s : Start L xs h I J) : hT h 6 = 0 := La_t2 (s.1.2.2.2.1)
theorem z_l6 (s : Start L xs h I J) : hL h 6 = 7 := La_l2 (s.1.2.2.2.1)
theorem z_r4_3 (s : Start L xs h I J) : hR h 4 3 = some 7 := La_r3 (s.1.2.2.2.1)
theorem z_t7 (s : Start L xs h I J) : hT h 7 = 0 := La_t3 (s.1.2.2.2.1)
theorem z_l7 (s : Start L xs h I J) : hL h 7 = 7 := La_l3 (s.1.2.2.2.1)
theorem z_r4_4 (s : Start L xs h I J) : hR h 4 4 = some 8 := La_r4 (s.1.2.2.2.1)
theorem z_t8 (s : Start L xs h I J) : hT h 8 = 0 := La_t4 (s.1.2.2.2.1)
theorem z_l8 (s : Start L xs h I J) : hL h 8 = 7 := La_l4 (s.1.2.2.2.1)
theorem z_r4_5 (s : Start L xs h I J) : hR h 4 5 = some 9 := La_r5 (s.1.2.2.2.1)
theorem z_t9 (s : Start L xs h I J) : hT h 9 = 0 := La_t5 (s.1.2.2.2.1)
theorem z_l9 (s : Start L xs h I J) : hL h 9 = 49 := La_l5 (s.1.2.2.2.1)
theorem z_r4_6 (s : Start L xs h I J) : hR h 4 6 = some 10 := La_r6 (s.1.2.2.2.1)
theorem z_t10 (s : Start L xs h I J) : hT h 10 = 0 := La_t6 (s.1.2.2.2.1)
theorem z_l10 (s : Start L xs h I J) : hL h 10 = 49 := La_l6 (s.1.2.2.2.1)
theorem z_r4_7 (s : Start L xs h I J) : hR h 4 7 = some 11 := La_r7 (s.1.2.2.2.1)
theorem z_t11 (s : Start L xs h I J) : hT h 11 = 0 := La_t7 (s.1.2.2.2.1)
theorem z_l11 (s : Start L xs h I J) : hL h 11 = 7 := La_l7 (s.1.2.2.2.1)
theorem z_r4_8 (s : Start L xs h I J) : hR h 4 8 = some 12 := La_r8 (s.1.2.2.2.1)
theorem z_t12 (s : Start L xs h I J) : hT h 12 = 0 := La_t8 (s.1.2.2.2.1)
theorem z_l12 (s : Start L xs h I J) : hL h 12 = 3 := La_l8 (s.1.2.2.2.1)
theorem z_r4_9 (s : Start L xs h I J) : hR h 4 9 = some 13 := La_r9 (s.1.2.2.2.1)
theorem z_t13 (s : Start L xs h I J) : hT h 13 = 0 := La_t9 (s.1.2.2.2.1)
theorem z_l13 (s : Start L xs h I J) : hL h 13 = 6 := La_l9 (s.1.2.2.2.1)
theorem z_r4_10 (s : Start L xs h I J) : hR h 4 10 = some 14 := La_r10 (s.1.2.2.2.1)
theorem z_t14 (s : Start L xs h I J) : hT h 14 = 0 := La_t10 (s.1.2.2.2.1)
theorem z_l14 (s : Start L xs h I J) : hL h 14 = 6 := La_l10 (s.1.2.2.2.1)
theorem z_r4_12 (s : Start L xs h I J) : hR h 4 12 = some 15 := La_r12 (s.1.2.2.2.1)
theorem z_t15 (s : Start L xs h I J) : hT h 15 = 4 := La_t11 (s.1.2.2.2.1)
theorem z_l15 (s : Start L xs h I J) : hL h 15 = 6 := La_l11 (s.1.2.2.2.1)
theorem z_t16 (s : Start L xs h I J) : hT h 16 = 11 := La_t (s.1.2.2.2.2.1)
theorem z_r16_1 (s : Start L xs h I J) : hR h 16 1 = some 17 := La_r1 (s.1.2.2.2.2.1)
theorem z_t17 (s : Start L xs h I J) : hT h 17 = 0 := La_t1 (s.1.2.2.2.2.1)
theorem z_l17 (s : Start L xs h I J) : hL h 17 = 7 := La_l1 (s.1.2.2.2.2.1)
theorem z_r16_2 (s : Start L xs h I J) : hR h 16 2 = some 18 := La_r2 (s.1.2.2.2.2.1)
theorem z_t18 (s : Start L xs h I J) : hT h 18 = 0 := La_t2 (s.1.2.2.2.2.1)
theorem z_l18 (s : Start L xs h I J) : hL h 18 = 7 := La_l2 (s.1.2.2.2.2.1)
theorem z_r16_3 (s : Start L xs h I J) : hR h 16 3 = some 19 := La_r3 (s.1.2.2.2.2.1)
theorem z_t19 (s : Start L xs h I J) : hT h 19 = 0 := La_t3 (s.1.2.2.2.2.1)
theorem z_l19 (s : Start L xs h I J) : hL h 19 = 7 := La_l3 (s.1.2.2.2.2.1)
theorem z_r16_4 (s : Start L xs h I J) : hR h 16 4 = some 20 := La_r4 (s.1.2.2.2.2.1)
theorem z_t20 (s : Start L xs h I J) : hT h 20 = 0 := La_t4 (s.1.2.2.2.2.1)
theorem z_l20 (s : Start L xs h I J) : hL h 20 = 7 := La_l4 (s.1.2.2.2.2.1)
theorem z_r16_5 (s : Start L xs h I J) : hR h 16 5 = some 21 := La_r5 (s.1.2.2.2.2.1)
theorem z_t21 (s : Start L xs h I J) : hT h 21 = 0 := La_t5 (s.1.2.2.2.2.1)
theorem z_l21 (s : Start L xs h I J) : hL h 21 = 49 := La_l5 (s.1.2.2.2.2.1)
theorem z_r16_6 (s : Start L xs h I J) : hR h 16 6 = some 22 := La_r6 (s.1.2.2.2.2.1)
theorem z_t22 (s : Start L xs h I J) : hT h 22 = 0 := La_t6 (s.1.2.2.2.2.1)
theorem z_l22 (s : Start L xs h I J) : hL h 22 = 49 := La_l6 (s.1.2.2.2.2.1)
theorem z_r16_7 (s : Start L xs h I J) : hR h 16 7 = some 23 := La_r7 (s.1.2.2.2.2.1)
theorem z_t23 (s : Start L xs h I J) : hT h 23 = 0 := La_t7 (s.1.2.2.2.2.1)
theorem z_l23 (s : Start L xs h I J) : hL h 23 = 7 := La_l7 (s.1.2.2.2.2.1)
theorem z_r16_8 (s : Start L xs h I J) : hR h 16 8 = some 24 := La_r8 (s.1.2.2.2.2.1)
theorem z_t24 (s : Start L xs h I J) : hT h 24 = 0 := La_t8 (s.1.2.2.2.2.1)
theorem z_l24 (s : Start L xs h I J) : hL h 24 = 3 := La_l8 (s.1.2.2.2.2.1)
theorem z_r16_9 (s : Start L xs h I J) : hR h 16 9 = some 25 := La_r9 (s.1.2.2.2.2.1)
theorem z_t25 (s : Start L xs h I J) : hT h 25 = 0 := La_t9 (s.1.2.2.2.2.1)
theorem z_l25 (s : Start L xs h I J) : hL h 25 = 6 := La_l9 (s.1.2.2.2.2.1)
theorem z_r16_10 (s : Start L xs h I J) : hR h 16 10 = some 26 := La_r10 (s.1.2.2.2.2.1)
theorem z_t26 (s : Start L xs h I J) : hT h 26 = 0 := La_t10 (s.1.2.2.2.2.1)
theorem z_l26 (s : Start L xs h I J) : hL h 26 = 6 := La_l10 (s.1.2.2.2.2.1)
theorem z_r16_12 (s : Start L xs h I J) : hR h 16 12 = some 27 := La_r12 (s.1.2.2.2.2.1)
theorem z_t27 (s : Start L xs h I J) : hT h 27 = 4 := La_t11 (s.1.2.2.2.2.1)
theorem z_l27 (s : Start L xs h I J) : hL h 27 = 6 := La_l11 (s.1.2.2.2.2.1)
theorem z_t28 (s : Start L xs h I J) : hT h 28 = 11 := La_t (s.1.2.2.2.2.2.1)
theorem z_r28_1 (s : Start L xs h I J) : hR h 28 1 = some 29 := La_r1 (s.1.2.2.2.2.2.1)
theorem z_t29 (s : Start L xs h I J) : hT h 29 = 0 := La_t1 (s.1.2.2.2.2.2.1)
theorem z_l29 (s : Start L xs h I J) : hL h 29 = 7 := La_l1 (s.1.2.2.2.2.2.1)
theorem z_r28_2 (s : Start L xs h I J) : hR h 28 2 = some 30 := La_r2 (s.1.2.2.2.2.2.1)
theorem z_t30 (s : Start L xs h I J) : hT h 30 = 0 := La_t2 (s.1.2.2.2.2.2.1)
theorem z_l30 (s : Start L xs h I J) : hL h 30 = 7 := La_l2 (s.1.2.2.2.2.2.1)
theorem z_r28_3 (s : Start L xs h I J) : hR h 28 3 = some 31 := La_r3 (s.1.2.2.2.2.2.1)
theorem z_t31 (s : Start L xs h I J) : hT h 31 = 0 := La_t3 (s.1.2.2.2.2.2.1)
theorem z_l31 (s : Start L xs h I J) : hL h 31 = 7 := La_l3 (s.1.2.2.2.2.2.1)
theorem z_r28_4 (s : Start L xs h I J) : hR h 28 4 = some 32 := La_r4 (s.1.2.2.2.2.2.1)
theorem z_t32 (s : Start L xs h I J) : hT h 32 = 0 := La_t4 (s.1.2.2.2.2.2.1)
theorem z_l32 (s : Start L xs h I J) : hL h 32 = 7 := La_l4 (s.1.2.2.2.2.2.1)
theorem z_r28_5 (s : Start L xs h I J) : hR h 28 5 = some 33 := La_r5 (s.1.2.2.2.2.2.1)
theorem z_t33 (s : Start L xs h I J) : hT h 33 = 0 := La_t5 (s.1.2.2.2.2.2.1)
theorem z_l33 (s : Start L xs h I J) : hL h 33 = 49 := La_l5 (s.1.2.2.2.2.2.1)
theorem z_r28_6 (s : Start L xs h I J) : hR h 28 6 = some 34 := La_r6 (s.1.2.2.2.2.2.1)
theorem z_t34 (s : Start L xs h I J) : hT h 34 = 0 := La_t6 (s.1.2.2.2.2.2.1)
theorem z_l34 (s : Start L xs h I J) : hL h 34 = 49 := La_l6 (s.1.2.2.2.2.2.1)
theorem z_r28_7 (s : Start L xs h I J) : hR h 28 7 = some 35 := La_r7 (s.1.2.2.2.2.2.1)
theorem z_t35 (s : Start L xs h I J) : hT h 35 = 0 := La_t7 (s.1.2.2.2.2.2.1)
theorem z_l35 (s : Start L xs h I J) : hL h 35 = 7 := La_l7 (s.1.2.2.2.2.2.1)
theorem z_r28_8 (s : Start L xs h I J) : hR h 28 8 = some 36 := La_r8 (s.1.2.2.2.2.2.1)
theorem z_t36 (s : Start L xs h I J) : hT h 36 = 0 := La_t8 (s.1.2.2.2.2.2.1)
theorem z_l36 (s : Start L xs h I J) : hL h 36 = 3 := La_l8 (s.1.2.2.2.2.2.1)
theorem z_r28_9 (s : Start L xs h I J) : hR h 28 9 = some 37 := La_r9 (s.1.2.2.2.2.2.1)
theorem z_t37 (s : Start L xs h I J) : hT h 37 = 0 := La_t9 (s.1.2.2.2.2.2.1)
theorem z_l37 (s : Start L xs h I J) : hL h 37 = 6 := La_l9 (s.1.2.2.2.2.2.1)
theorem z_r28_10 (s : Start L xs h I J) : hR h 28 10 = some 38 := La_r10 (s.1.2.2.2.2.2.1)
theorem z_t38 (s : Start L xs h I J) : hT h 38 = 0 := La_t10 (s.1.2.2.2.2.2.1)
theorem z_l38 (s : Start L xs h I J) : hL h 38 = 6 := La_l10 (s.1.2.2.2.2.2.1)
theorem z_r28_12 (s : Start L xs h I J) : hR h 28 12 = some 39 := La_r12 (s.1.2.2.2.2.2.1)
theorem z_t39 (s : Start L xs h I J) : hT h 39 = 4 := La_t11 (s.1.2.2.2.2.2.1)
theorem z_l39 (s : Start L xs h I J) : hL h 39 = 6 := La_l11 (s.1.2.2.2.2.2.1)
theorem z_t40 (s : Start L xs h I J) : hT h 40 = 5 := s.1.2.2.2.2.2.2.1.1
theorem z_l40 (s : Start L xs h I J) : hL h 40 = 2 := s.1.2.2.2.2.2.2.1.2
theorem z_t41 (s : Start L xs h I J) : hT h 41 = 18 := Tp_t (s.1.2.2.2.2.2.2.2.1)
theorem z_r41_0 (s : Start L xs h I J) : hR h 41 0 = some 42 := Tp_r0 (s.1.2.2.2.2.2.2.2.1)
theorem z_t42 (s : Start L xs h I J) : hT h 42 = 0 := Tp_t1 (s.1.2.2.2.2.2.2.2.1)
theorem z_l42 (s : Start L xs h I J) : hL h 42 = 400 := Tp_l1 (s.1.2.2.2.2.2.2.2.1)
theorem z_t43 (s : Start L xs h I J) : hT h 43 = 15 := (s.1.2.2.2.2.2.2.2.2.1).2.1
theorem z_r43_0 (s : Start L xs h I J) : hR h 43 0 = some 44 := (s.1.2.2.2.2.2.2.2.2.1).2.2.1
theorem z_t44 (s : Start L xs h I J) : hT h 44 = 19 := Tx_t ((s.1.2.2.2.2.2.2.2.2.1).2.2.2.1)
theorem z_r44_0 (s : Start L xs h I J) : hR h 44 0 = some 45 := Tx_r0 ((s.1.2.2.2.2.2.2.2.2.1).2.2.2.1)
theorem z_r44_1 (s : Start L xs h I J) : hR h 44 1 = some 46 := Tx_r1 ((s.1.2.2.2.2.2.2.2.2.1).2.2.2.1)
theorem z_r44_2 (s : Start L xs h I J) : hR h 44 2 = some 47 := Tx_r2 ((s.1.2.2.2.2.2.2.2.2.1).2.2.2.1)
theorem z_r44_3 (s : Start L xs h I J) : hR h 44 3 = some 48 := Tx_r3 ((s.1.2.2.2.2.2.2.2.2.1).2.2.2.1)
theorem z_r44_4 (s : Start L xs h I J) : hR h 44 4 = some 49 := Tx_r4 ((s.1.2.2.2.2.2.2.2.2.1).2.2.2.1)
theorem z_r44_5 (s : Start L xs h I J) : hR h 44 5 = some 50 := Tx_r5 ((s.1.2.2.2.2.2.2.2.2.1).2.2.2.1)
theorem z_t45 (s : Start L xs h I J) : hT h 45 = 0 := (s.1.2.2.2.2.2.2.2.2.1).2.2.2.2.1.1
theorem z_l45 (s : Start L xs h I J) : hL h 45 = 400 := (s.1.2.2.2.2.2.2.2.2.1).2.2.2.2.1.2
theorem z_t46 (s : Start L xs h I J) : hT h 46 = 0 := (s.1.2.2.2.2.2.2.2.2.1).2.2.2.2.2.1.1
theorem z_l46 (s : Start L xs h I J) : hL h 46 = 400 := (s.1.2.2.2.2.2.2.2.2.1).2.2.2.2.2.1.2
theorem z_t47 (s : Start L xs h I J) : hT h 47 = 0 := (s.1.2.2.2.2.2.2.2.2.1).2.2.2.2.2.2.1.1
theorem z_l47 (s : Start L xs h I J) : hL h 47 = 12 := (s.1.2.2.2.2.2.2.2.2.1).2.2.2.2.2.2.1.2
theorem z_t48 (s : Start L xs h I J) : hT h 48 = 0 := (s.1.2.2.2.2.2.2.2.2.1).2.2.2.2.2.2.2.1.1
theorem z_l48 (s : Start L xs h I J) : hL h 48 = 12 := (s.1.2.2.2.2.2.2.2.2.1).2.2.2.2.2.2.2.1.2
theorem z_t49 (s : Start L xs h I J) : hT h 49 = 0 := (s.1.2.2.2.2.2.2.2.2.1).2.2.2.2.2.2.2.2.1.1
theorem z_l49 (s : Start L xs h I J) : hL h 49 = 48 := (s.1.2.2.2.2.2.2.2.2.1).2.2.2.2.2.2.2.2.1.2
theorem z_t50 (s : Start L xs h I J) : hT h 50 = 0 := (s.1.2.2.2.2.2.2.2.2.1).2.2.2.2.2.2.2.2.2.1
theorem z_l50 (s : Start L xs h I J) : hL h 50 = 48 := (s.1.2.2.2.2.2.2.2.2.1).2.2.2.2.2.2.2.2.2.2
theorem z_t52 (s : Start L xs h I J) : hT h 52 = 10 := Ju_t (s.1.2.2.2.2.2.2.2.2.2.1)
theorem z_r52_0 (s : Start L xs h I J) : hR h 52 0 = some 53 := Ju_r0 (s.1.2.2.2.2.2.2.2.2.2.1)
theorem z_r52_1 (s : Start L xs h I J) : hR h 52 1 = some 54 := Ju_r1 (s.1.2.2.2.2.2.2.2.2.2.1)
theorem z_t53 (s : Start L xs h I J) : hT h 53 = 0 := Ju_t1 (s.1.2.2.2.2.2.2.2.2.2.1)
theorem z_l53 (s : Start L xs h I J) : hL h 53 = 9 := Ju_l1 (s.1.2.2.2.2.2.2.2.2.2.1)
theorem z_t54 (s : Start L xs h I J) : hT h 54 = 16 := Rk_t (Ju_s2 (s.1.2.2.2.2.2.2.2.2.2.1))
theorem z_r54_0 (s : Start L xs h I J) : hR h 54 0 = some 55 := Rk_r0 (Ju_s2 (s.1.2.2.2.2.2.2.2.2.2.1))
theorem z_t55 (s : Start L xs h I J) : hT h 55 = 0 := Rk_t1 (Ju_s2 (s.1.2.2.2.2.2.2.2.2.2.1))
theorem z_l55 (s : Start L xs h I J) : hL h 55 = 64 := Rk_l1 (Ju_s2 (s.1.2.2.2.2.2.2.2.2.2.1))
theorem z_t56 (s : Start L xs h I J) : hT h 56 = 12 := Mo_t (s.1.2.2.2.2.2.2.2.2.2.2.1)
theorem z_r56_0 (s : Start L xs h I J) : hR h 56 0 = some 57 := Mo_r0 (s.1.2.2.2.2.2.2.2.2.2.2.1)
theorem z_r56_1 (s : Start L xs h I J) : hR h 56 1 = some 61 := Mo_r1 (s.1.2.2.2.2.2.2.2.2.2.2.1)
theorem z_t61 (s : Start L xs h I J) : hT h 61 = 0 := Mo_t5 (s.1.2.2.2.2.2.2.2.2.2.2.1)
theorem z_l61 (s : Start L xs h I J) : hL h 61 = 7 := Mo_l5 (s.1.2.2.2.2.2.2.2.2.2.2.1)
theorem z_t57 (s : Start L xs h I J) : hT h 57 = 10 := Ju_t (Mo_s1 (s.1.2.2.2.2.2.2.2.2.2.2.1))
theorem z_r57_0 (s : Start L xs h I J) : hR h 57 0 = some 58 := Ju_r0 (Mo_s1 (s.1.2.2.2.2.2.2.2.2.2.2.1))
theorem z_r57_1 (s : Start L xs h I J) : hR h 57 1 = some 59 := Ju_r1 (Mo_s1 (s.1.2.2.2.2.2.2.2.2.2.2.1))
theorem z_t58 (s : Start L xs h I J) : hT h 58 = 0 := Ju_t1 (Mo_s1 (s.1.2.2.2.2.2.2.2.2.2.2.1))
theorem z_l58 (s : Start L xs h I J) : hL h 58 = 9 := Ju_l1 (Mo_s1 (s.1.2.2.2.2.2.2.2.2.2.2.1))
theorem z_t59 (s : Start L xs h I J) : hT h 59 = 16 := Rk_t (Ju_s2 (Mo_s1 (s.1.2.2.2.2.2.2.2.2.2.2.1)))
theorem z_r59_0 (s : Start L xs h I J) : hR h 59 0 = some 60 := Rk_r0 (Ju_s2 (Mo_s1 (s.1.2.2.2.2.2.2.2.2.2.2.1)))
theorem z_t60 (s : Start L xs h I J) : hT h 60 = 0 := Rk_t1 (Ju_s2 (Mo_s1 (s.1.2.2.2.2.2.2.2.2.2.2.1)))
theorem z_l60 (s : Start L xs h I J) : hL h 60 = 64 := Rk_l1 (Ju_s2 (Mo_s1 (s.1.2.2.2.2.2.2.2.2.2.2.1)))
theorem z_t62 (s : Start L xs h I J) : hT h 62 = 17 := (s.1.2.2.2.2.2.2.2.2.2.2.2.1).2.1
theorem z_r62_2 (s : Start L xs h I J) : hR h 62 2 = some 63 := (s.1.2.2.2.2.2.2.2.2.2.2.2.1).2.2.1
theorem z_r62_3 (s : Start L xs h I J) : hR h 62 3 = some 69 := (s.1.2.2.2.2.2.2.2.2.2.2.2.1).2.2.2.1
theorem z_r62_4 (s : Start L xs h I J) : hR h 62 4 = some 70 := (s.1.2.2.2.2.2.2.2.2.2.2.2.1).2.2.2.2.1
theorem z_t69 (s : Start L xs h I J) : hT h 69 = 0 := (s.1.2.2.2.2.2.2.2.2.2.2.2.1).2.2.2.2.2.1
theorem z_l69 (s : Start L xs h I J) : hL h 69 = 18 := (s.1.2.2.2.2.2.2.2.2.2.2.2.1).2.2.2.2.2.2.1
theorem z_t63 (s : Start L xs h I J) : hT h 63 = 12 := Mo_t ((s.1.2.2.2.2.2.2.2.2.2.2.2.1).2.2.2.2.2.2.2.1)
theorem z_r63_0 (s : Start L xs h I J) : hR h 63 0 = some 64 := Mo_r0 ((s.1.2.2.2.2.2.2.2.2.2.2.2.1).2.2.2.2.2.2.2.1)
theorem z_r63_1 (s : Start L xs h I J) : hR h 63 1 = some 68 := Mo_r1 ((s.1.2.2.2.2.2.2.2.2.2.2.2.1).2.2.2.2.2.2.2.1)
theorem z_t68 (s : Start L xs h I J) : hT h 68 = 0 := Mo_t5 ((s.1.2.2.2.2.2.2.2.2.2.2.2.1).2.2.2.2.2.2.2.1)
theorem z_l68 (s : Start L xs h I J) : hL h 68 = 7 := Mo_l5 ((s.1.2.2.2.2.2.2.2.2.2.2.2.1).2.2.2.2.2.2.2.1)
theorem z_t64 (s : Start L xs h I J) : hT h 64 = 10 := Ju_t (Mo_s1 ((s.1.2.2.2.2.2.2.2.2.2.2.2.1).2.2.2.2.2.2.2.1))
theorem z_r64_0 (s : Start L xs h I J) : hR h 64 0 = some 65 := Ju_r0 (Mo_s1 ((s.1.2.2.2.2.2.2.2.2.2.2.2.1).2.2.2.2.2.2.2.1))
theorem z_r64_1 (s : Start L xs h I J) : hR h 64 1 = some 66 := Ju_r1 (Mo_s1 ((s.1.2.2.2.2.2.2.2.2.2.2.2.1).2.2.2.2.2.2.2.1))
theorem z_t65 (s : Start L xs h I J) : hT h 65 = 0 := Ju_t1 (Mo_s1 ((s.1.2.2.2.2.2.2.2.2.2.2.2.1).2.2.2.2.2.2.2.1))
theorem z_l65 (s : Start L xs h I J) : hL h 65 = 9 := Ju_l1 (Mo_s1 ((s.1.2.2.2.2.2.2.2.2.2.2.2.1).2.2.2.2.2.2.2.1))
theorem z_t66 (s : Start L xs h I J) : hT h 66 = 16 := Rk_t (Ju_s2 (Mo_s1 ((s.1.2.2.2.2.2.2.2.2.2.2.2.1).2.2.2.2.2.2.2.1)))
theorem z_r66_0 (s : Start L xs h I J) : hR h 66 0 = some 67 := Rk_r0 (Ju_s2 (Mo_s1 ((s.1.2.2.2.2.2.2.2.2.2.2.2.1).2.2.2.2.2.2.2.1)))
theorem z_t67 (s : Start L xs h I J) : hT h 67 = 0 := Rk_t1 (Ju_s2 (Mo_s1 ((s.1.2.2.2.2.2.2.2.2.2.2.2.1).2.2.2.2.2.2.2.1)))
theorem z_l67 (s : Start L xs h I J) : hL h 67 = 64 := Rk_l1 (Ju_s2 (Mo_s1 ((s.1.2.2.2.2.2.2.2.2.2.2.2.1).2.2.2.2.2.2.2.1)))
theorem z_t70 (s : Start L xs h I J) : hT h 70 = 16 := Rk_t ((s.1.2.2.2.2.2.2.2.2.2.2.2.1).2.2.2.2.2.2.2.2)
theorem z_r70_0 (s : Start L xs h I J) : hR h 70 0 = some 71 := Rk_r0 ((s.1.2.2.2.2.2.2.2.2.2.2.2.1).2.2.2.2.2.2.2.2)
theorem z_t71 (s : Start L xs h I J) : hT h 71 = 0 := Rk_t1 ((s.1.2.2.2.2.2.2.2.2.2.2.2.1).2.2.2.2.2.2.2.2)
theorem z_l71 (s : Start L xs h I J) : hL h 71 = 64 := Rk_l1 ((s.1.2.2.2.2.2.2.2.2.2.2.2.1).2.2.2.2.2.2.2.2)
theorem z_t72 (s : Start L xs h I J) : hT h 72 = 14 := Ps_t (s.1.2.2.2.2.2.2.2.2.2.2.2.2.1)
theorem z_r72_2 (s : Start L xs h I J) : hR h 72 2 = some 73 := Ps_r2 (s.1.2.2.2.2.2.2.2.2.2.2.2.2.1)
theorem z_t73 (s : Start L xs h I J) : hT h 73 = 0 := Ps_t1 (s.1.2.2.2.2.2.2.2.2.2.2.2.2.1)
theorem z_l73 (s : Start L xs h I J) : hL h 73 = 1224 := Ps_l1 (s.1.2.2.2.2.2.2.2.2.2.2.2.2.1)
theorem z_t74 (s : Start L xs h I J) : hT h 74 = 14 := Ps_t (s.1.2.2.2.2.2.2.2.2.2.2.2.2.2.1)
theorem z_r74_2 (s : Start L xs h I J) : hR h 74 2 = some 75 := Ps_r2 (s.1.2.2.2.2.2.2.2.2.2.2.2.2.2.1)
theorem z_t75 (s : Start L xs h I J) : hT h 75 = 0 := Ps_t1 (s.1.2.2.2.2.2.2.2.2.2.2.2.2.2.1)
theorem z_l75 (s : Start L xs h I J) : hL h 75 = 1224 := Ps_l1 (s.1.2.2.2.2.2.2.2.2.2.2.2.2.2.1)
theorem z_t76 (s : Start L xs h I J) : hT h 76 = 13 := Pa_t (s.1.2.2.2.2.2.2.2.2.2.2.2.2.2.2.1)
theorem z_r76_0 (s : Start L xs h I J) : hR h 76 0 = some 77 := Pa_r0 (s.1.2.2.2.2.2.2.2.2.2.2.2.2.2.2.1)
theorem z_t77 (s : Start L xs h I J) : hT h 77 = 0 := Pa_t1 (s.1.2.2.2.2.2.2.2.2.2.2.2.2.2.2.1)
theorem z_l77 (s : Start L xs h I J) : hL h 77 = 49 := Pa_l1 (s.1.2.2.2.2.2.2.2.2.2.2.2.2.2.2.1)
theorem z_r76_1 (s : Start L xs h I J) : hR h 76 1 = some 78 := Pa_r1 (s.1.2.2.2.2.2.2.2.2.2.2.2.2.2.2.1)
theorem z_t78 (s : Start L xs h I J) : hT h 78 = 0 := Pa_t2 (s.1.2.2.2.2.2.2.2.2.2.2.2.2.2.2.1)
theorem z_l78 (s : Start L xs h I J) : hL h 78 = 7 := Pa_l2 (s.1.2.2.2.2.2.2.2.2.2.2.2.2.2.2.1)
theorem z_r76_2 (s : Start L xs h I J) : hR h 76 2 = some 79 := Pa_r2 (s.1.2.2.2.2.2.2.2.2.2.2.2.2.2.2.1)
theorem z_t79 (s : Start L xs h I J) : hT h 79 = 0 := Pa_t3 (s.1.2.2.2.2.2.2.2.2.2.2.2.2.2.2.1)
theorem z_l79 (s : Start L xs h I J) : hL h 79 = 49 := Pa_l3 (s.1.2.2.2.2.2.2.2.2.2.2.2.2.2.2.1)
theorem z_r76_3 (s : Start L xs h I J) : hR h 76 3 = some 80 := Pa_r3 (s.1.2.2.2.2.2.2.2.2.2.2.2.2.2.2.1)
theorem z_t80 (s : Start L xs h I J) : hT h 80 = 0 := Pa_t4 (s.1.2.2.2.2.2.2.2.2.2.2.2.2.2.2.1)
theorem z_l80 (s : Start L xs h I J) : hL h 80 = 128 := Pa_l4 (s.1.2.2.2.2.2.2.2.2.2.2.2.2.2.2.1)
theorem z_r76_4 (s : Start L xs h I J) : hR h 76 4 = some 81 := Pa_r4 (s.1.2.2.2.2.2.2.2.2.2.2.2.2.2.2.1)
theorem z_t81 (s : Start L xs h I J) : hT h 81 = 0 := Pa_t5 (s.1.2.2.2.2.2.2.2.2.2.2.2.2.2.2.1)
theorem z_l81 (s : Start L xs h I J) : hL h 81 = 128 := Pa_l5 (s.1.2.2.2.2.2.2.2.2.2.2.2.2.2.2.1)
theorem z_r76_5 (s : Start L xs h I J) : hR h 76 5 = some 82 := Pa_r5 (s.1.2.2.2.2.2.2.2.2.2.2.2.2.2.2.1)
theorem z_t82 (s : Start L xs h I J) : hT h 82 = 0 := Pa_t6 (s.1.2.2.2.2.2.2.2.2.2.2.2.2.2.2.1)
theorem z_l82 (s : Start L xs h I J) : hL h 82 = 7 := Pa_l6 (s.1.2.2.2.2.2.2.2.2.2.2.2.2.2.2.1)
theorem z_t83 (s : Start L xs h I J) : hT h 83 = 20 := (s.1.2.2.2.2.2.2.2.2.2.2.2.2.2.2.2.1).2.1
theorem z_r83_4 (s : Start L xs h I J) : hR h 83 4 = some 84 := (s.1.2.2.2.2.2.2.2.2.2.2.2.2.2.2.2.1).2.2.1
theorem z_r83_5 (s : Start L xs h I J) : hR h 83 5 = some 85 := (s.1.2.2.2.2.2.2.2.2.2.2.2.2.2.2.2.1).2.2.2.1
theorem z_t84 (s : Start L xs h I J) : hT h 84 = 0 := (s.1.2.2.2.2.2.2.2.2.2.2.2.2.2.2.2.1).2.2.2.2.1
theorem z_l84 (s : Start L xs h I J) : hL h 84 = 49 := (s.1.2.2.2.2.2.2.2.2.2.2.2.2.2.2.2.1).2.2.2.2.2.1
theorem z_t85 (s : Start L xs h I J) : hT h 85 = 0 := (s.1.2.2.2.2.2.2.2.2.2.2.2.2.2.2.2.1).2.2.2.2.2.2.1
theorem z_l85 (s : Start L xs h I J) : hL h 85 = 49 := (s.1.2.2.2.2.2.2.2.2.2.2.2.2.2.2.2.1).2.2.2.2.2.2.2
theorem z_t86 (s : Start L xs h I J) : hT h 86 = 1 := s.1.2.2.2.2.2.2.2.2.2.2.2.2.2.2.2.2.1.1
theorem z_l86 (s : Start L xs h I J) : hL h 86 = 20 := s.1.2.2.2.2.2.2.2.2.2.2.2.2.2.2.2.2.1.2
theorem z_t87 (s : Start L xs h I J) : hT h 87 = 0 := s.1.2.2.2.2.2.2.2.2.2.2.2.2.2.2.2.2.2.1
theorem z_l87 (s : Start L xs h I J) : hL h 87 = 5 := s.1.2.2.2.2.2.2.2.2.2.2.2.2.2.2.2.2.2.2
theorem z_t0 (s : Start L xs h I J) : hT h 0 = 0 := s.2.2.2.2.1.1
end Zz
