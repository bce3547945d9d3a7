/-! The call home (by program, wip/whole/gen98zv.py) -/
section P98zv
variable {d n k L : Nat} {I I' I1 I2 J : Nat → Nat → Int} {h h' h1 : IH} {qc pc sc : Nat} {a b : Nat → Nat} {snd : Nat → Nat → Nat → Bool} {S : BSt} {K : Nat → Int} {LW : Nat → Nat × (Nat → Cls)} {own own' : Nat → Nat} {xs : Nat → Int32}
theorem LkF.low (l : LkF h h' I I') (hN : 118 ≤ hN h) : (∀ b, b < 118 → hT h' b = hT h b ∧ hL h' b = hL h b ∧ (b ≠ 83 → hR h' b = hR h b)) ∧ ∀ i, i < 6 → hR h' 83 i = hR h 83 i := by
  rcases l with ⟨rfl, -⟩ | ⟨qc, pc, sc, g, -⟩
  · exact ⟨fun b _ => ⟨rfl, rfl, fun _ => rfl⟩, fun _ _ => rfl⟩
  · exact g.low hN
theorem LkF.row (l : LkF h h' I I') (hN : 118 ≤ hN h) {b : Nat} (hb : b < 118) (h1 : b < 52 ∨ 55 < b) (h2 : b ≠ 83) (h3 : b ≠ 84) (h4 : b ≠ 85) : I' b = I b := by
  rcases l with ⟨-, -, l⟩ | ⟨qc, pc, sc, g, wy, l⟩
  · exact l b h1 h2 h3 h4
  · have := wy.2.1.2.2
    have := wy.2.2.1.2.2
    exact l b (by omega) h1 h2 h3 h4 (by omega) (by omega)
theorem LkF.t (l : LkF h h' I I') (hN : 118 ≤ hN h) (s : ShT h) : ShT h' := ShT_83 s (l.low hN).1 (l.low hN).2
/-- what home answers: the class -/
theorem t_homeA (s : ShT h) (ar : ArN n a) (w : HwI h I n a snd) (x : Int) : (xgR (st h I J) 3 21 12 fun x6 =>
 xB x6 fun a8 =>
 xgI (st h I J) a8 20 0 fun x7 =>
 (if x7 = (-1) then
 some (oI (-1), (st h I J))
 else
 (if x < (-1) then
 some (oI (-1), (st h I J))
 else
 xgR (st h I J) 3 21 12 fun x9 =>
 xB x9 fun a11 =>
 xgI (st h I J) a11 20 0 fun x10 =>
 (if x < x10 then
 (if x = (-1) then
 xgR (st h I J) 3 21 12 fun x12 =>
 xB x12 fun a14 =>
 xgI (st h I J) a14 20 0 fun x13 =>
 some (oI x13, (st h I J))
 else
 xgR (st h I J) 3 21 12 fun x15 =>
 xB x15 fun a16 =>
 xck (st h I J) a16 20 <|
 kI (rn (d + 1) 90 [iR (some a16), iI x] (st h I J)) fun x18 h17 =>
 some (oI x18, h17))
 else
 some (oI (-1), (st h I J)))))) = some (oI (homA n (bfsB n snd a) x), st h I J) := by
  obtain ⟨bo, tl, e0⟩ := bfs_t (snd := snd) ar
  have hn := ar.1
  obtain ⟨B, eB⟩ : ∃ B, B = bfsB n snd a := ⟨_, rfl⟩
  obtain ⟨Q, P, hm, rooms⟩ := w
  rw [← eB] at bo tl e0 hm ⊢
  have t83 := aT_83 s
  have t3 := aT_3 s
  have r12 := aR_3_12 s
  unfold homA
  rcases hm with ⟨eb, f0⟩ | ⟨eb, f0, rest⟩
  · rw [ygR t3 r12, xB_s, ygIv t83 f0, if_pos rfl, eb, if_neg (show ¬ (false = true) by decide)]
    by_cases c : x < -1
    · rw [if_pos c]
    · rw [if_neg c]
  · obtain ⟨g1, g2⟩ := idxB_ok B.1 eb
    obtain ⟨g, eg⟩ : ∃ g, g = idxB (nmB n B) 0 B.1 := ⟨_, rfl⟩
    rw [← eg] at f0 rest g1 ⊢
    rw [ygR t3 r12, xB_s, ygIv t83 f0, if_neg (show ¬ ((depB B B.1 g : Nat) : Int) = -1 by omega), eb, if_pos (show (true = true) from rfl)]
    by_cases c1 : x < -1
    · rw [if_pos c1, if_pos c1]
    rw [if_neg c1, if_neg c1, ygR t3 r12, xB_s, ygIv t83 f0]
    unfold homV
    by_cases c3 : x < ((depB B B.1 g : Nat) : Int)
    · rw [if_pos c3]
      by_cases c2 : x = -1
      · rw [if_pos c2, if_pos c2, ygR t3 r12, xB_s, ygIv t83 f0]
      · rw [if_neg c2, if_neg c2, if_pos c3]
        obtain ⟨x', ex⟩ : ∃ x' : Nat, x = (x' : Int) := ⟨x.toNat, by omega⟩
        subst ex
        rcases rest with f00 | ⟨f1, wq⟩
        · omega
        rcases rooms with ⟨r1, r2, r3⟩ | ⟨qc, pc, sc, wy, rfl, rfl⟩
        · have := (wq 0 bo.1).2
          rw [if_pos rfl, r3] at this
          omega
        · rw [ygR t3 r12, xB_s, yck t83, t_swapAt (d := d) (J := J) s wy hn bo tl e0 wq g1 (by omega) f0 f1, kI_o]
          rfl
    · rw [if_neg c3, if_neg (by have := dep_le (S := B) B.1 g; omega), if_neg c3]
theorem t_home (o : NowOk h I K LW) (en : K 183 = (n : Int)) (hN118 : 118 ≤ hN h) (ow : HwO h I) (x : Int) : ∃ (h' : IH) (I' J' : Nat → Nat → Int), LkF h h' I I' ∧ (I' 83 2 = (n : Int) ∧ I' 83 3 = (packA (arK K) : Nat) ∧ ∀ j, j < 49 → I' 85 j = rowF n (sndK K (lvOf K LW)) j) ∧ HwI h' I' n (arK K) (sndK K (lvOf K LW)) ∧ rn (d + 7) 124 [iR (some 3), iI x] (st h I J) = some (oI (homA n (bfsB n (sndK K (lvOf K LW)) (arK K)) x), st h' I' J') := by
  have s := o.1
  obtain ⟨h1, I1, J1, a1, a2, a3, a4⟩ := t_look (d := d) (J := J) o en hN118 ow
  have s1 := a1.t hN118 s
  refine ⟨h1, I1, J1, a1, a2, a3, ?_⟩
  rw [r_T_home, e_T_home, ygR (aT_3 s) (aR_3_12 s), ygR (aT_3 s) (aR_3_0 s), ygR (aT_3 s) (aR_3_6 s), xB_s, yck (aT_83 s), a4, kV_o]
  exact t_homeA (d := d + 5) s1 (arN_of o.2.2.1 en) a3 x
theorem IvW.o (v : IvW h I own) : HwO h I := by
  rcases v with ⟨v1, v2⟩ | ⟨q, p, s, v1, ⟨w1, w2, w3, w4⟩, ⟨t1, t2⟩, ⟨t3, t4⟩, ⟨t5, t6⟩, v6⟩
  · exact Or.inl ⟨v1, v2⟩
  · exact Or.inr ⟨q, p, s, ⟨v1, ⟨t1, t2, w1.1⟩, ⟨t3, t4, w2.1⟩, ⟨t5, t6, w3.1⟩, w4⟩, v6⟩
/-- the rows of the class, then the reference's -/
theorem Inv.home (v : Inv L xs k h I) (hk : k < 1000) (l : LkF h h1 I I1) (ar : ArN n a) (hf : I1 83 2 = (n : Int) ∧ I1 83 3 = (packA a : Nat) ∧ ∀ j, j < 49 → I1 85 j = rowF n snd j) (hw : HwI h1 I1 n a snd) (ch : ChFr I2 I1) : Inv L xs (k + 1) h1 I2 := by
  obtain ⟨own, u1, u2, u3, u4, u5, u6, u7, u8, u9⟩ := id v
  have hN118 := u9.2.1
  have low := l.low hN118
  have s1 := l.t hN118 u1.1
  have c : ∀ b, b < 118 → (b < 52 ∨ 55 < b) → b ≠ 83 → b ≠ 84 → b ≠ 85 → b ≠ 88 → b ≠ 100 → b ≠ 108 → b ≠ 109 → b ≠ 110 → b ≠ 111 → b ≠ 112 → I2 b = I b := fun b z0 z1 z2 z3 z4 z5 z6 z7 z8 z9 z10 z11 => by rw [ch.1 b z5 z6 z7 z8 z9 z10 z11, l.row hN118 z0 z1 z2 z3 z4]
  have cc : ∀ b, (b < 52 ∨ (55 < b ∧ b < 83) ∨ b = 87 ∨ (88 < b ∧ b < 100) ∨ (100 < b ∧ b < 108) ∨ (112 < b ∧ b < 118)) → I2 b = I b := fun b hb => c b (by omega) (by omega) (by omega) (by omega) (by omega) (by omega) (by omega) (by omega) (by omega) (by omega) (by omega) (by omega)
  have c88 : ∀ i, i ≠ 22 → i ≠ 23 → i ≠ 24 → i ≠ 25 → I2 88 i = I 88 i := fun i z1 z2 z3 z4 => by rw [ch.2 i z1 z2 z3 z4, l.row hN118 (by omega) (by omega) (by omega) (by omega) (by omega)]
  have f83 : I2 83 = I1 83 := ch.1 83 (by omega) (by omega) (by omega) (by omega) (by omega) (by omega) (by omega)
  have f85 : I2 85 = I1 85 := ch.1 85 (by omega) (by omega) (by omega) (by omega) (by omega) (by omega) (by omega)
  have hi : ∀ b, 118 ≤ b → I2 b = I1 b := fun b hb => ch.1 b (by omega) (by omega) (by omega) (by omega) (by omega) (by omega) (by omega)
  have r40 : hR h1 40 = hR h 40 := (low.1 40 (by omega)).2.2 (by omega)
  have w1 : IvB L xs h1 I2 := by
    obtain ⟨t1, t2, ⟨t3, t4, t5⟩, t6, t7⟩ := u1
    refine ⟨s1, ShM_tr t2 (fun b b1 b2 => ⟨(low.1 b b2).1, (low.1 b b2).2.1⟩) ((low.1 88 (by omega)).2.2 (by omega)), ⟨by rw [(low.1 0 (by omega)).1]; exact t3, by rw [(low.1 0 (by omega)).2.1]; exact t4, by rw [cc 0 (by omega)]; exact t5⟩, by rw [cc 1 (by omega)]; exact t6, by rw [cc 94 (by omega)]; exact t7⟩
  have w4 : IvT I2 := u4.fr (cc _ (by omega)) (cc _ (by omega)) (cc _ (by omega)) (cc _ (by omega)) (cc _ (by omega)) (cc _ (by omega)) (c88 13 (by omega) (by omega) (by omega) (by omega)) (c88 14 (by omega) (by omega) (by omega) (by omega))
  have w5 : IvP I2 := u5.fr (cc _ (by omega)) (cc _ (by omega)) (cc _ (by omega)) (by rw [cc 90 (by omega)]) (c88 31 (by omega) (by omega) (by omega) (by omega))
  have w6 : IvC I2 := u6.fr (fun b b1 b2 => cc b (by omega)) (cc _ (by omega)) (c88 55 (by omega) (by omega) (by omega) (by omega))
  have w7 : IvR I2 (k + 1) := u7.fr (cc _ (by omega)) (cc _ (by omega)) (cc _ (by omega)) (c88 0 (by omega) (by omega) (by omega) (by omega)) (c88 6 (by omega) (by omega) (by omega) (by omega)) (c88 47 (by omega) (by omega) (by omega) (by omega))
  have hms : ∀ Q P : Nat → Int, HmA n (bfsB n snd a) (I1 83) Q P → HmS (I2 83) (I2 85) Q P := fun Q P hm => by
    rw [f83, f85]
    exact Or.inr ⟨n, a, snd, ar, ⟨hf.1, hf.2.1⟩, hf.2.2, hm⟩
  rcases l with ⟨rfl, l1, l2⟩ | ⟨qc, pc, sc, g, wy, l2⟩
  · have ht : ∀ b, 118 ≤ b → I2 b = I b := fun b hb => by rw [hi b hb, l2 b (by omega) (by omega) (by omega) (by omega)]
    refine ⟨own, w1, u2.fr (fun b b1 b2 => cc b (by omega)) ht (cc _ (by omega)), ⟨⟨u3.1.1.fr (cc _ (by omega)) (cc _ (by omega)) ht, u3.1.2.fr (cc _ (by omega)) (cc _ (by omega)) ht⟩, u3.2⟩, w4, w5, w6, w7, Or.inl ⟨l1, ?_⟩, u9.s hk⟩
    obtain ⟨Q, P, hm, ⟨r1, r2, r3⟩ | ⟨qc, pc, sc, wy, -⟩⟩ := hw
    · have e1 : Q = fun _ => 0 := funext r2
      have e2 : P = fun _ => 0 := funext r3
      subst e1 e2
      exact hms _ _ hm
    · rw [wy.1.1] at l1
      cases l1
  · obtain ⟨⟨y1, y2, y3⟩, ⟨q1, q2, q3⟩, ⟨p1, p2, p3⟩, ⟨z1, z2, z3⟩, qp⟩ := id wy
    have hm : HmS (I2 83) (I2 85) (I2 qc) (I2 pc) := by
      rw [hi qc q3, hi pc p3]
      obtain ⟨Q, P, hm, ⟨r1, r2, r3⟩ | ⟨qc', pc', sc', wy', rfl, rfl⟩⟩ := hw
      · rw [y1] at r1
        cases r1
      · have e1 := wy'.1.1
        have e2 := wy'.1.2.1
        rw [y1] at e1
        rw [y2] at e2
        cases e1
        cases e2
        exact hms _ _ hm
    have key : ∃ own' : Nat → Nat, (∀ b, b < hN h → own' b = own b) ∧ (∀ z len, 0 < len → hT h z ≠ 0 → Bk own (hN h) z len → z ≠ qc) ∧ (hN h ≤ hN h1 ∧ ∀ b, 118 ≤ b → b < hN h → hT h1 b = hT h b ∧ hL h1 b = hL h b ∧ hR h1 b = hR h b) ∧ (Bk own' (hN h1) qc 1 ∧ Bk own' (hN h1) pc 1 ∧ Bk own' (hN h1) sc 1) ∧ IvN h1 (k + 1) ∧ (∀ b, 118 ≤ b → b < hN h → own b ≠ qc → b ≠ qc) := by
      rcases g with ⟨rfl, -⟩ | ⟨g1, ⟨g2, g3, g4⟩, g5, g6, g7, g8⟩
      · rcases u8 with ⟨v1, -⟩ | ⟨q, p, s, ⟨v1, v2, v3⟩, ⟨b1, b2, b3, -⟩, -⟩
        · rw [y1] at v1
          cases v1
        · rw [y1] at v1
          rw [y2] at v2
          rw [y3] at v3
          cases v1
          cases v2
          cases v3
          refine ⟨own, fun _ _ => rfl, fun z len _ hz _ e => hz (by rw [e]; exact q1), ⟨Nat.le_refl _, fun _ _ _ => ⟨rfl, rfl, rfl⟩⟩, ⟨b1, b2, b3⟩, u9.s hk, fun b _ _ z e => z ?_⟩
          rw [e]
          exact b1.2.2 0 (by omega)
      · refine ⟨fun b => if hN h ≤ b then b else own b, fun b hb => if_neg (by omega), fun z len hl _ bk e => by have := bk.2.1; omega, ⟨by omega, fun b b1 b2 => ⟨(g7 b b2).1, (g7 b b2).2.1, (g7 b b2).2.2 (by omega)⟩⟩, ⟨⟨q3, by omega, fun i hi => (if_pos (show hN h ≤ qc + i by omega)).trans (show qc + i = qc by omega)⟩, ⟨p3, by omega, fun i hi => (if_pos (show hN h ≤ pc + i by omega)).trans (show pc + i = pc by omega)⟩, ⟨z3, by omega, fun i hi => (if_pos (show hN h ≤ sc + i by omega)).trans (show sc + i = sc by omega)⟩⟩, ?_, fun b _ b2 _ e => by omega⟩
        obtain ⟨x1, x2, ⟨x3, x4, x5⟩ | ⟨x3, x4, x5⟩⟩ := u9
        · exact ⟨by omega, by omega, Or.inr ⟨(by rw [y1]; exact fun z => (by cases z)), by omega, by omega⟩⟩
        · exact absurd g1 x3
    obtain ⟨own', o1, ne1, ⟨nn, sm⟩, ⟨bq, bp, bs⟩, w9, oq⟩ := key
    obtain ⟨Ia, eIa⟩ : ∃ Ia : Nat → Nat → Int, Ia = fun b => if b = pc then (if b < hN h then I b else I2 b) else I2 b := ⟨_, rfl⟩
    have ia1 : ∀ b, b ≠ pc → Ia b = I2 b := fun b z => by rw [eIa]; exact if_neg z
    have ia2 : pc < hN h → Ia pc = I pc := fun z => by
      rw [eIa]
      show (if pc = pc then (if pc < hN h then I pc else I2 pc) else I2 pc) = _
      rw [if_pos rfl, if_pos z]
    have x1 : HX h h1 I Ia own own' qc := ⟨nn, o1, fun b b1 b2 b3 => by
      obtain ⟨m1, m2, m3⟩ := sm b b1 b2
      refine ⟨m1, m2, m3, ?_⟩
      by_cases z : b = pc
      · rw [z]
        exact ia2 (by omega)
      · rw [ia1 b z, hi b b1, l2 b b2 (by omega) (by omega) (by omega) (by omega) (oq b b1 b2 b3) z]⟩
    have x2 : HX h1 h1 Ia I2 own' own' pc := ⟨Nat.le_refl _, fun _ _ => rfl, fun b b1 b2 b3 => ⟨rfl, rfl, rfl, (ia1 b fun z => b3 (by rw [z]; exact bp.2.2 0 (by omega))).symm⟩⟩
    have ne2 : ∀ z, hT h1 z ≠ 0 → z ≠ pc := fun z hz e => hz (by rw [e]; exact p1)
    have low' : ∀ b, b < 118 → Ia b = I2 b := fun b hb => ia1 b (by omega)
    have w2 : IvL h1 I2 own' 4 (I2 90) := (u2.hx x1 (fun y ht bk => ne1 y 7 (by omega) (by rw [ht]; decide) bk) (fun b b1 b2 => by rw [low' b (by omega)]; exact cc b (by omega)) ((low.1 15 (by omega)).2.2 (by omega)) (show Ia 90 = I 90 by rw [low' 90 (by omega)]; exact cc 90 (by omega))).hx x2 (fun y ht bk => ne2 y (by rw [ht]; decide)) (fun b b1 b2 => (low' b (by omega)).symm) rfl (low' 90 (by omega)).symm
    have iv : ∀ y, IvI h I own y → IvI h1 I2 own' y := fun y vi => by
      have n2 : ∀ z, hR h 40 y = some z → z ≠ qc := fun z hz => by
        rcases vi with ⟨v1, -⟩ | ⟨a', v1, -, v3, v4, -⟩
        · rw [hz] at v1
          cases v1
        · rw [hz] at v1
          cases v1
          exact ne1 z 12 (by omega) (by rw [La_t v3]; decide) v4
      have st1 : IvI h1 Ia own' y := vi.hx x1 (fun z ht bk => ne1 z 7 (by omega) (by rw [ht]; decide) bk) n2 (by rw [r40]) (by rw [low' 92 (by omega), cc 92 (by omega)]) (fun i _ => by unfold imK; rw [low' 91 (by omega), cc 91 (by omega)])
      exact st1.hx x2 (fun z ht bk => ne2 z (by rw [ht]; decide)) (fun z hz => by
        rcases st1 with ⟨v1, -⟩ | ⟨a', v1, -, v3, v4, -⟩
        · rw [hz] at v1
          cases v1
        · rw [hz] at v1
          cases v1
          exact ne2 z (by rw [La_t v3]; decide)) rfl (by rw [low' 92 (by omega)]) (fun i _ => by unfold imK; rw [low' 91 (by omega)])
    exact ⟨own', w1, w2, ⟨⟨iv 0 u3.1.1, iv 1 u3.1.2⟩, by rw [r40]; exact u3.2⟩, w4, w5, w6, w7, Or.inr ⟨qc, pc, sc, ⟨y1, y2, y3⟩, ⟨bq, bp, bs, qp⟩, ⟨q1, q2⟩, ⟨p1, p2⟩, ⟨z1, z2⟩, hm⟩, w9⟩
theorem C_home (v : Inv L xs k h I) (hk : k < 1000) (x : Int) : Cal L xs k h I J 124 263 [iI x] := by
  obtain ⟨LW, o⟩ := v.now
  have kk := o.2.2.1
  obtain ⟨n, en⟩ : ∃ n : Nat, I 90 183 = (n : Int) := ⟨(I 90 183).toNat, by have := kk.1; omega⟩
  obtain ⟨own, u1, u2, u3, u4, u5, u6, u7, u8, u9⟩ := id v
  have hN118 := u9.2.1
  intro d
  obtain ⟨h1, I1, J1, a1, a2, a3, a4⟩ := t_home (d := d + 93) (J := J) o en hN118 u8.o x
  have low := a1.low hN118
  have m1 : ShM h1 88 := ShM_tr v.m (fun b b1 b2 => ⟨(low.1 b b2).1, (low.1 b b2).2.1⟩) ((low.1 88 (by omega)).2.2 (by omega))
  have e90 : I1 90 = I 90 := a1.row hN118 (by omega) (by omega) (by omega) (by omega) (by omega)
  obtain ⟨I2, b1, b2⟩ := m_home (d := d + 52) (h := h1) (I := I1) (J := J1) m1 kk (lvOf_ok kk o.2.2.2.1) en e90 x
  refine ⟨_, h1, I1, J1, h1, I2, J1, a4, b2, ⟨⟨by rw [(low.1 0 (by omega)).1]; exact v.sc.1, by rw [(low.1 0 (by omega)).2.1]; exact v.sc.2.1, by rw [a1.row hN118 (by omega) (by omega) (by omega) (by omega) (by omega)]; exact v.sc.2.2⟩, m1⟩, v.home hk a1 (arN_of kk en) a2 a3 b1⟩
end P98zv
