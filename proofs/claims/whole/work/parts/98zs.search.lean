/-! Room for the search; the search: the class (by program, wip/whole/gen98zs.py) -/
/-- three cells more, nothing else other but the fields of 83 that hold them -/
def GrW (h h' : IH) (qc pc sc : Nat) : Prop := (h' = h ∧ WyS h qc pc sc) ∨ (hR h 83 6 = none ∧ (qc = hN h ∧ pc = hN h + 1 ∧ sc = hN h + 2) ∧ hN h' = hN h + 3 ∧ hS h' = hS h + 14176 ∧ (∀ b, b < hN h → hT h' b = hT h b ∧ hL h' b = hL h b ∧ (b ≠ 83 → hR h' b = hR h b)) ∧ ∀ i, i < 6 → hR h' 83 i = hR h 83 i)
theorem ShT_83 {h h' : IH} (hs : ShT h) (low : ∀ b, b < 118 → hT h' b = hT h b ∧ hL h' b = hL h b ∧ (b ≠ 83 → hR h' b = hR h b)) (e : ∀ i, i < 6 → hR h' 83 i = hR h 83 i) : ShT h' := by
  obtain ⟨⟨g1, g2⟩, g3, g4, g5, g6, g7, ⟨g8, g9⟩, g10, g11, g12, g13, g14, g15, g16, g17, g18, ⟨g19, g20⟩, g21, g22⟩ := hs
  have q : ∀ b, b < 118 → b ≠ 83 → hT h' b = hT h b ∧ hL h' b = hL h b ∧ hR h' b = hR h b := fun b b1 b2 => ⟨(low b b1).1, (low b b1).2.1, (low b b1).2.2 b2⟩
  have q3 := (q 3 (by omega) (by omega)).2.2
  have w : ShWh h' 83 := by
    obtain ⟨x1, x2, x3, x4, x5, x6, x7, x8⟩ := g18
    exact ⟨x1, by rw [(low 83 (by omega)).1]; exact x2, by rw [e 4 (by omega)]; exact x3, by rw [e 5 (by omega)]; exact x4, by rw [(low (83 + 1) (by omega)).1]; exact x5, by rw [(low (83 + 1) (by omega)).2.1]; exact x6, by rw [(low (83 + 2) (by omega)).1]; exact x7, by rw [(low (83 + 2) (by omega)).2.1]; exact x8⟩
  refine ⟨⟨by rw [(q 1 (by omega) (by omega)).1, g1], by rw [(q 1 (by omega) (by omega)).2.1, g2]⟩, by rw [(q 3 (by omega) (by omega)).1, g3], by rw [q3]; exact g4, La_tr g5 fun b b1 b2 => q b (by omega) (by omega), La_tr g6 fun b b1 b2 => q b (by omega) (by omega), La_tr g7 fun b b1 b2 => q b (by omega) (by omega), ⟨by rw [(low 40 (by omega)).1, g8], by rw [(low 40 (by omega)).2.1, g9]⟩, Tp_tr g10 fun b b1 b2 => q b (by omega) (by omega), Rd_tr g11 fun b b1 b2 => q b (by omega) (by omega), Ju_tr g12 fun b b1 b2 => q b (by omega) (by omega), Mo_tr g13 fun b b1 b2 => q b (by omega) (by omega), Rn_tr g14 fun b b1 b2 => q b (by omega) (by omega), Ps_tr g15 fun b b1 b2 => q b (by omega) (by omega), Ps_tr g16 fun b b1 b2 => q b (by omega) (by omega), Pa_tr g17 fun b b1 b2 => q b (by omega) (by omega), w, ⟨by rw [(q 86 (by omega) (by omega)).1, g19], by rw [(q 86 (by omega) (by omega)).2.1, g20]⟩, by rw [(q 87 (by omega) (by omega)).1, g21], by rw [(q 87 (by omega) (by omega)).2.1, g22]⟩
section P98zs
variable {d n : Nat} {I I' J : Nat → Nat → Int} {h h' : IH} {qc pc sc : Nat} {a : Nat → Nat} {snd : Nat → Nat → Nat → Bool}
theorem GrW.low (g : GrW h h' qc pc sc) (hN : 118 ≤ hN h) : (∀ b, b < 118 → hT h' b = hT h b ∧ hL h' b = hL h b ∧ (b ≠ 83 → hR h' b = hR h b)) ∧ ∀ i, i < 6 → hR h' 83 i = hR h 83 i := by
  rcases g with ⟨rfl, -⟩ | ⟨-, -, -, -, g5, g6⟩
  · exact ⟨fun b _ => ⟨rfl, rfl, fun _ => rfl⟩, fun _ _ => rfl⟩
  · exact ⟨fun b hb => g5 b (by omega), g6⟩
theorem GrW.t (g : GrW h h' qc pc sc) (hN : 118 ≤ hN h) (s : ShT h) : ShT h' := ShT_83 s (g.low hN).1 (g.low hN).2
theorem t_room (s : ShT h) (hN118 : 118 ≤ hN h) (oy : (∃ qc pc sc, WyS h qc pc sc) ∨ hR h 83 6 = none) : ∃ (h' : IH) (I' J' : Nat → Nat → Int) (qc pc sc : Nat), GrW h h' qc pc sc ∧ WyS h' qc pc sc ∧ (∀ b, b < hN h → I' b = I b) ∧ (I' = I ∨ qc = hN h) ∧ (∀ p, p < 4096 → J' sc p = 0) ∧ rn (d + 2) 93 [iR (some 83)] (st h I J) = some (o0, st h' I' J') := by
  have t83 := aT_83 s
  rcases oy with ⟨qc, pc, sc, y⟩ | y
  · obtain ⟨⟨y1, y2, y3⟩, yq, yp, ⟨y4, y5, y6⟩, yn⟩ := id y
    obtain ⟨R, g1, g2⟩ := s_fillJ (d := d) (I := I) (J := J) y4 (by omega) y5 (by omega) (J sc)
    rw [putJ_self] at g2
    refine ⟨h, I, putJ J sc R, qc, pc, sc, Or.inl ⟨rfl, y⟩, y, fun _ _ => rfl, Or.inl rfl, fun p hp => ?_, ?_⟩
    · rw [putJ_e]
      exact g1 p hp
    · rw [r_Wh_makeRoom, e_Wh_makeRoom, ygR t83 y1]
      dsimp only
      rw [ygR t83 y2]
      dsimp only
      rw [ygR t83 y3]
      dsimp only
      rw [ygR t83 y3, g2, kV_o]
  · obtain ⟨N, eN⟩ : ∃ N, N = hN h := ⟨_, rfl⟩
    rw [← eN] at hN118 ⊢
    obtain ⟨h1, eh1⟩ : ∃ h1, h1 = pR (mkc h N 0 5040) 83 6 (some N) := ⟨_, rfl⟩
    obtain ⟨h2, eh2⟩ : ∃ h2, h2 = pR (mkc h1 (N + 1) 0 5040) 83 7 (some (N + 1)) := ⟨_, rfl⟩
    obtain ⟨h3, eh3⟩ : ∃ h3, h3 = pR (mkc h2 (N + 2) 1 4096) 83 8 (some (N + 2)) := ⟨_, rfl⟩
    have n1 : hN h1 = N + 1 := by rw [eh1]; rfl
    have n2 : hN h2 = N + 1 + 1 := by rw [eh2]; rfl
    have n3 : hN h3 = N + 2 + 1 := by rw [eh3]; rfl
    have z1 : hS h1 = hS h + 5040 := by rw [eh1]; rfl
    have z2 : hS h2 = hS h1 + 5040 := by rw [eh2]; rfl
    have z3 : hS h3 = hS h2 + 4096 := by rw [eh3]; rfl
    have T1 : ∀ b, hT h1 b = if b = N then 0 else hT h b := fun b => by rw [eh1]; rfl
    have T2 : ∀ b, hT h2 b = if b = N + 1 then 0 else hT h1 b := fun b => by rw [eh2]; rfl
    have T3 : ∀ b, hT h3 b = if b = N + 2 then 1 else hT h2 b := fun b => by rw [eh3]; rfl
    have L1 : ∀ b, hL h1 b = if b = N then 5040 else hL h b := fun b => by rw [eh1]; rfl
    have L2 : ∀ b, hL h2 b = if b = N + 1 then 5040 else hL h1 b := fun b => by rw [eh2]; rfl
    have L3 : ∀ b, hL h3 b = if b = N + 2 then 4096 else hL h2 b := fun b => by rw [eh3]; rfl
    have R1 : ∀ b, b ≠ 83 → b ≠ N → hR h1 b = hR h b := fun b q1 q2 => by rw [eh1, pR_Rn q1, mkc_Rn q2]
    have R2 : ∀ b, b ≠ 83 → b ≠ N + 1 → hR h2 b = hR h1 b := fun b q1 q2 => by rw [eh2, pR_Rn q1, mkc_Rn q2]
    have R3 : ∀ b, b ≠ 83 → b ≠ N + 2 → hR h3 b = hR h2 b := fun b q1 q2 => by rw [eh3, pR_Rn q1, mkc_Rn q2]
    have W1 : ∀ i, i ≠ 6 → hR h1 83 i = hR h 83 i := fun i q1 => by rw [eh1, pR_Ri q1, mkc_Rn (by omega)]
    have W2 : ∀ i, i ≠ 7 → hR h2 83 i = hR h1 83 i := fun i q1 => by rw [eh2, pR_Ri q1, mkc_Rn (by omega)]
    have W3 : ∀ i, i ≠ 8 → hR h3 83 i = hR h2 83 i := fun i q1 => by rw [eh3, pR_Ri q1, mkc_Rn (by omega)]
    have V1 : hR h1 83 6 = some N := by rw [eh1, pR_Re]
    have V2 : hR h2 83 7 = some (N + 1) := by rw [eh2, pR_Re]
    have V3 : hR h3 83 8 = some (N + 2) := by rw [eh3, pR_Re]
    have t1 : hT (mkc h N 0 5040) 83 = 20 := by rw [mkc_Tn (by omega)]; exact t83
    have u1 : hT h1 83 = 20 := by rw [T1, if_neg (by omega)]; exact t83
    have t2 : hT (mkc h1 (N + 1) 0 5040) 83 = 20 := by rw [mkc_Tn (by omega)]; exact u1
    have u2 : hT h2 83 = 20 := by rw [T2, if_neg (by omega)]; exact u1
    have t3 : hT (mkc h2 (N + 2) 1 4096) 83 = 20 := by rw [mkc_Tn (by omega)]; exact u2
    have u3 : hT h3 83 = 20 := by rw [T3, if_neg (by omega)]; exact u2
    have s3 : hT h3 (N + 2) = 1 := by rw [T3, if_pos rfl]
    have l3 : hL h3 (N + 2) = 4096 := by rw [L3, if_pos rfl]
    obtain ⟨I3, eI⟩ : ∃ I3, I3 = clr (clr (clr I N) (N + 1)) (N + 2) := ⟨_, rfl⟩
    obtain ⟨J3, eJ⟩ : ∃ J3, J3 = clr (clr (clr J N) (N + 1)) (N + 2) := ⟨_, rfl⟩
    obtain ⟨R, g1, g2⟩ := s_fillJ (d := d) (I := I3) (J := J3) s3 (by omega) l3 (by omega) (J3 (N + 2))
    rw [putJ_self] at g2
    refine ⟨h3, I3, putJ J3 (N + 2) R, N, N + 1, N + 2, Or.inr ⟨y, ⟨eN, by omega, by omega⟩, by omega, by omega, fun b hb => ?_, fun i hi => ?_⟩, ⟨⟨?_, ?_, V3⟩, ⟨?_, ?_, hN118⟩, ⟨?_, ?_, by omega⟩, ⟨s3, l3, by omega⟩, by omega⟩, fun b hb => ?_, Or.inr rfl, fun p hp => ?_, ?_⟩
    · exact ⟨by rw [T3, if_neg (by omega), T2, if_neg (by omega), T1, if_neg (by omega)], by rw [L3, if_neg (by omega), L2, if_neg (by omega), L1, if_neg (by omega)], fun q => by rw [R3 b q (by omega), R2 b q (by omega), R1 b q (by omega)]⟩
    · rw [W3 i (by omega), W2 i (by omega), W1 i (by omega)]
    · rw [W3 6 (by omega), W2 6 (by omega), V1]
    · rw [W3 7 (by omega), V2]
    · rw [T3, if_neg (by omega), T2, if_neg (by omega), T1, if_pos rfl]
    · rw [L3, if_neg (by omega), L2, if_neg (by omega), L1, if_pos rfl]
    · rw [T3, if_neg (by omega), T2, if_pos rfl]
    · rw [L3, if_neg (by omega), L2, if_pos rfl]
    · rw [eI, clr_n (by omega), clr_n (by omega), clr_n (by omega)]
    · rw [putJ_e]
      exact g1 p hp
    · rw [r_Wh_makeRoom, e_Wh_makeRoom, ygR t83 y]
      dsimp only
      rw [e_Wh_makeRoom_21, cAl eN.symm (show (5040 : Int) = ((5040 : Nat) : Int) from rfl) (by omega), cPut t1 (by omega), ← eh1, cAl n1 (show (5040 : Int) = ((5040 : Nat) : Int) from rfl) (by omega), cPut t2 (by omega), ← eh2, cAl n2 (show (4096 : Int) = ((4096 : Nat) : Int) from rfl) (by omega), cPut t3 (by omega), ← eh3, ← eI, ← eJ, ygR u3 V3, g2, kV_o]
/-- the search from a on, home isn't it -/
theorem t_search (s : ShT h) (hN118 : 118 ≤ hN h) (oy : (∃ qc pc sc, WyS h qc pc sc) ∨ hR h 83 6 = none) (ar : ArN n a) (na : numA n a ≠ 0) (sd : ∀ j, j < 49 → I 84 j = rowF n snd j) : ∃ (h' : IH) (I' J' : Nat → Nat → Int) (qc pc sc : Nat), GrW h h' qc pc sc ∧ WyS h' qc pc sc ∧ ((∀ b, b < hN h → b ≠ 83 → b ≠ qc → b ≠ pc → I' b = I b) ∧ ∀ i, i ≠ 1 → I' 83 i = I 83 i) ∧ (HwT I' J' qc pc sc n (bfsB n snd a) ∧ BOk n (bfsB n snd a)) ∧ rn (d + 4) 94 [iR (some 83), iI (n : Int), iI (packA a : Nat), iI (packA (fun i => i) : Nat)] (st h I J) = some (oI (if inB (nmB n (bfsB n snd a)) 0 (bfsB n snd a).1 = true then (depB (bfsB n snd a) (bfsB n snd a).1 (idxB (nmB n (bfsB n snd a)) 0 (bfsB n snd a).1) : Int) else -1), st h' I' J') := by
  obtain ⟨hn, p, ta⟩ := ar
  obtain ⟨h1, I1, J1, qc, pc, sc, g, wy, a1, a2, a3, a4⟩ := t_room (d := d + 1) (I := I) (J := J) s hN118 oy
  have s1 := g.t hN118 s
  have sm := perm_sm hn p ta
  have hv := pack_lt sm
  obtain ⟨⟨y1, y2, y3⟩, ⟨q1, q2, q3⟩, ⟨p1, p2, p3⟩, -, qp⟩ := id wy
  have t83 := aT_83 s1
  obtain ⟨I2, eI2⟩ : ∃ I2, I2 = up (up I1 qc 0 (packA a : Nat)) pc 0 (-1) := ⟨_, rfl⟩
  obtain ⟨J2, b1, b2⟩ := t_mark (d := d + 2) (I := I2) (J := J1) s1 wy (w := fun _ => 0) (fun p hp => by rw [a3 p hp, jv_0]) hv
  obtain ⟨I3, eI3⟩ : ∃ I3, I3 = up I2 83 1 (-1) := ⟨_, rfl⟩
  have eq0 : I3 qc 0 = (packA a : Nat) := by rw [eI3, up_na (by omega), eI2, up_na qp, up_eq]
  have ep0 : I3 pc 0 = -1 := by rw [eI3, up_na (by omega), eI2, up_eq]
  have fr3 : ∀ b, b ≠ 83 → b ≠ qc → b ≠ pc → I3 b = I1 b := fun b z1 z2 z3 => by rw [eI3, up_na z1, eI2, up_na z3, up_na z2]
  have f83 : ∀ i, i ≠ 1 → I3 83 i = I1 83 i := fun i z => by rw [eI3, up_ni z, eI2, up_na (by omega), up_na (by omega)]
  have en0 : inB (nmB n (st0B a)) 0 (st0B a).1 = false := by
    show (decide (numA n a = 0) || false) = false
    simp [na]
  have w0 : HwT I3 J2 qc pc sc n (st0B a) := by
    refine ⟨fun i hi => ?_, ⟨_, b1, fun u hu => ?_⟩, ?_, fun i hi j hj => ta j hj⟩
    · have h1 : i < 1 := hi
      have : i = 0 := by omega
      subst this
      refine ⟨?_, ?_⟩
      · rw [eq0]
        rfl
      · rw [ep0, if_pos rfl]
    · have e1 : inB (pkB (st0B a)) u (st0B a).1 = decide (packA a % 262144 = u) := by
        show (decide (packA a % 262144 = u) || false) = _
        rw [Bool.or_false]
      rw [e1]
      by_cases c : u / 64 = packA a % 262144 / 64
      · rw [if_pos c, Nat.zero_or, Nat.testBit_two_pow]
        by_cases c2 : packA a % 262144 = u
        · rw [decide_eq_true c2, decide_eq_true (by omega)]
        · rw [decide_eq_false c2, decide_eq_false (by omega)]
      · rw [if_neg c, Nat.zero_testBit, decide_eq_false (fun z => c (by rw [z]))]
    · rw [en0, if_neg (show ¬ (false = true) by decide), eI3, up_eq]
  have sd3 : ∀ j, j < 49 → I3 84 j = rowF n snd j := fun j hj => by rw [fr3 84 (by omega) (by omega) (by omega), a1 84 (by omega)]; exact sd j hj
  obtain ⟨I4, J4, c1, c2, c3⟩ := l_se35 (d := d) (snd := snd) s1 wy hn 5040 0 994958 I3 J2 (st0B a) (by omega) (Nat.zero_le _) w0 (st0B_ok p) (show (0 : Nat) < 49 by omega) sd3
  refine ⟨h1, I4, J4, qc, pc, sc, g, wy, ⟨fun b z0 z1 z2 z3 => ?_, fun i z => ?_⟩, c2, ?_⟩
  · rw [c1.1 b z1 z2 z3, fr3 b z1 z2 z3, a1 b z0]
  · rw [c1.2 i z, f83 i z, a1 83 (by omega)]
  · have c3' : lp (d + 3) 94 999999 35 [some (iR (some 83)), some (iI (n : Int)), none, some (iI (packA (fun i => i) : Nat)), some (iI 1), some (iI 0)] [] (st h1 I3 J2) = _ := c3
    have b2' : rn (d + 3) 95 [iR (some 83), iI (packA a : Nat)] (st h1 I2 J1) = _ := b2
    have a4' : rn (d + 3) 93 [iR (some 83)] (st h I J) = _ := a4
    rw [r_Wh_search, e_Wh_search, yck (aT_83 s), a4', kV_o, ygR t83 y1, xB_s, zSI (i := 0) (j := 0) q1 (by omega) q2 rfl (by omega), ygR t83 y2, xB_s, zSI (i := 0) (j := 0) p1 (by omega) p2 rfl (by omega), ← eI2, yck t83, b2', kI_o, ypI t83 (by omega), ← eI3, c3']
    rfl
end P98zs
