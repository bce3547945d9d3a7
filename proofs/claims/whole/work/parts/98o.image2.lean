/-! The calls image and back (by program, wip/whole/gen98o.py) -/
section P98o
variable {d k L n : Nat} {I I' I1 I2 J : Nat → Nat → Int} {a b c : Nat} {h h' g : IH} {K : Nat → Int} {LW : Nat → Nat × (Nat → Cls)} {own own' : Nat → Nat} {xs : Nat → Int32}
theorem CpL.o (c : CpL I' I a b) {q : Nat} (hq : q < a ∨ a + 10 < q) : I' q = I q := c.1 q hq
/-- the reference takes an image -/
theorem m_image (m : ShM h 88) {y : Nat} (hy : y ≤ 1) : ∃ I2, rn (d + 2) 158 [iR (some 88), iI (y : Int)] (st h I J) = some (oI 0, st h I2 J) ∧ (∀ b, b ≠ 88 → b ≠ 91 → b ≠ 92 → I2 b = I b) ∧ (∀ i, I2 88 i = if i = 0 then 0 else I 88 i) ∧ (∀ i, I2 92 i = if i = y then 1 else I 92 i) ∧ (∀ w i, w ≤ 1 → i < 5794 → imK I2 w i = if w = y then I 90 i else imK I w i) := by
  have hl := l_image (d := d) (J := J) m hy 5794 0 994204 I rfl
  have hl' : lp (d + 1) 158 999999 17 [some (iR (some 88)), some (iI (y : Int)), some (iI 0)] [] (st h I J) = _ := hl
  refine ⟨up (up (cpy I 90 0 91 (5794 * y + 0) 5794) 92 y 1) 88 0 0, ?_, fun b q1 q2 q3 => ?_, fun i => ?_, fun i => ?_, fun w i hw hi => ?_⟩
  rotate_left
  · rw [up_na q1, up_na q3, cpy_na q2]
  · rw [up_at, up_na (by omega), cpy_na (by omega)]
  · rw [up_na (by omega), up_at, cpy_na (by omega)]
  · show (up (up (cpy I 90 0 91 (5794 * y + 0) 5794) 92 y 1) 88 0 0) 91 (5794 * w + i) = if w = y then I 90 i else I 91 (5794 * w + i)
    rw [up_na (by omega), up_na (by omega)]
    by_cases z : w = y
    · rw [if_pos z, cpy_at (by omega), z, show 0 + (5794 * y + i - (5794 * y + 0)) = i by omega]
    · rw [if_neg z, cpy_of (by omega)]
  · rw [r_M_image, e_M_image, s_lies, kI_o, if_pos (show (0 : Int) ≤ (y : Int) ∧ (y : Int) ≤ 1 by omega), if_neg (by omega), hl']
theorem C_image (v : Inv L xs k h I) (hk : k < 1000) (x : Int) : Cal L xs k h I J 136 158 [iI x] := by
  have s := v.t
  have m := v.m
  by_cases c1 : 0 ≤ x ∧ x ≤ 1
  case neg =>
    have rv : RfV (-1) := by unfold RfV; omega
    refine Cal.r v hk (-1) rv (fun d => ⟨I, J, TnQ.rf I, ?_⟩) fun d I1 J1 t => ⟨refT (-1) I1, J1, MnQ.rf _, ?_⟩
    · rw [r_T_image, e_T_image]
      by_cases q : x < 0
      · rw [if_pos q, yck (aT_3 s), s_refT (d := d + 98) s (x := -1) rv (v.b87 rv).1, kI_o]
      · rw [if_neg q, if_neg (by omega), yck (aT_3 s), s_refT (d := d + 98) s (x := -1) rv (v.b87 rv).1, kI_o]
    · have e90 : refT (-1) I1 90 = I 90 := (refT_n (by omega) (by omega)).trans (t 90 (by omega) (by omega) (by omega) (by omega))
      have e89 : refT (-1) I1 89 = I 89 := (refT_n (by omega) (by omega)).trans (t 89 (by omega) (by omega) (by omega) (by omega))
      rw [r_M_image, e_M_image, s_lies (d := d + 98), kI_o, if_neg c1, if_pos rfl, yck (bT_88 m), s_refM (d := d + 98) m (x := -1) rv (by rw [e89]; exact (v.b87 rv).2), kI_o]
  obtain ⟨y, rfl⟩ : ∃ y : Nat, x = (y : Int) := ⟨x.toNat, by omega⟩
  have hy : y ≤ 1 := by omega
  obtain ⟨own, u1, u2, u3, u4, u5, u6, u7, u8, u9⟩ := id v
  obtain ⟨⟨LW, r, kk, hA⟩, hw⟩ := id u2
  have k185 := kk.2.2.2.2.2.1
  have iy : IvI h I own y := by
    have : y = 0 ∨ y = 1 := by omega
    rcases this with rfl | rfl
    · exact u3.1.1
    · exact u3.1.2
  have iw : ∀ w z, w ≤ 1 → hR h 40 w = some z → ShLand h z ∧ Bk own (hN h) z 12 := fun w z hw hz => by
    have iv : IvI h I own w := by
      have : w = 0 ∨ w = 1 := by omega
      rcases this with rfl | rfl
      · exact u3.1.1
      · exact u3.1.2
    rcases iv with ⟨v1, -⟩ | ⟨z', v1, -, v3, v4, -⟩
    · rw [v1] at hz
      cases hz
    · rw [v1] at hz
      have : z' = z := Option.some.inj hz
      rw [this] at v3 v4
      exact ⟨v3, v4⟩
  intro d
  rcases iy with ⟨e40, -⟩ | ⟨a, e40, -, la, bka, va⟩
  · -- a new LAND
    obtain ⟨N, eN⟩ : ∃ N, hN h = N := ⟨_, rfl⟩
    have hN118 := u9.2.1
    rw [eN] at hN118
    have x1 : hT h 1 = 0 := aT_1 s
    obtain ⟨h1, I1, J1, e1, k1, ⟨o1, o2, o3, o4⟩, n1, z1, ⟨sl, nl⟩, y1⟩ := c_La (d := d + 98) (h := mkc h N 11 15) (I := clr I N) (J := clr J N) (a := N) (by rw [mkc_Tn (by omega)]; exact aT_1 s) (by rw [mkc_Ln (by omega)]; exact aL_1 s) (by omega) (mkc_Te _) rfl clr_e
    have q : ∀ b, b < N → hT h1 b = hT h b ∧ hL h1 b = hL h b ∧ hR h1 b = hR h b ∧ I1 b = I b := by
      intro b hb
      obtain ⟨x1, x2, x3, x4, x5⟩ := k1 b hb
      rw [mkc_Tn (by omega)] at x1
      rw [mkc_Ln (by omega)] at x2
      rw [mkc_Rn (by omega)] at x3
      rw [clr_n (by omega)] at x4
      exact ⟨x1, x2, x3, x4⟩
    obtain ⟨g, eg⟩ : ∃ g, g = sR h1 (upR (hR h1) 40 y (some N)) := ⟨_, rfl⟩
    have gT : hT g = hT h1 := by rw [eg]; rfl
    have gL : hL g = hL h1 := by rw [eg]; rfl
    have gN : hN g = hN h1 := by rw [eg]; rfl
    have gS : hS g = hS h1 := by rw [eg]; rfl
    have gR : ∀ b, b ≠ 40 → hR g b = hR h1 b := fun b z => by rw [eg]; exact upR_na z
    have g40 : ∀ w, hR g 40 w = if w = y then some N else hR h 40 w := fun w => by
      have : hR g 40 w = if w = y then some N else hR h1 40 w := by
        rw [eg]
        show (if 40 = 40 ∧ w = y then some N else hR h1 40 w) = _
        by_cases z : w = y
        · rw [if_pos ⟨rfl, z⟩, if_pos z]
        · rw [if_neg (fun u => z u.2), if_neg z]
      rw [this, (q 40 (by omega)).2.2.1]
    have slg : ShLand g N := by rw [eg]; exact La_R sl (by omega)
    have lowg : ∀ b, b < 118 → hT g b = hT h b ∧ hL g b = hL h b ∧ (b ≠ 40 → hR g b = hR h b) := fun b hb => ⟨by rw [gT]; exact (q b (by omega)).1, by rw [gL]; exact (q b (by omega)).2.1, fun z => by rw [gR b z]; exact (q b (by omega)).2.2.1⟩
    have sg := ShT_low s lowg
    have g15 : hR g 15 = hR h 15 := (lowg 15 (by omega)).2.2 (by omega)
    obtain ⟨h2, I2, ⟨⟨p1, p2, p3, p4⟩, p5, p6, p7⟩, cp, e2⟩ := s_cpF (d := d + 98) (I := I1) (J := J1) (h := g) (a := N) (b := 4) slg (ShT_4 sg) (aT_1 sg) (aL_1 sg) (by omega) (fun j z hj hz => by
      rw [g15] at hz
      have := hw j z hz
      exact ⟨by rw [(show hT g z = hT h z by rw [gT]; exact (q z (by have := this.2.2.1; omega)).1)]; exact this.1, by have := this.2.1; omega⟩)
    have low : ∀ b, b < 118 → hT h2 b = hT h b ∧ hL h2 b = hL h b ∧ (b ≠ 40 → hR h2 b = hR h b) := fun b hb => ⟨by rw [p1]; exact (lowg b hb).1, by rw [p2]; exact (lowg b hb).2.1, fun z => by rw [p5 b (by omega)]; exact (lowg b hb).2.2 z⟩
    have s2 := ShT_low s low
    have t3g : hT g 3 = 21 := aT_3 sg
    have e1' : rn (d + 99) 8 [iR (some N)] (st (mkc h N 11 15) (clr I N) (clr J N)) = some (o0, st h1 I1 J1) := e1
    have e2' : rn (d + 99) 9 [iR (some N), iR (some 4)] (st g I1 J1) = some (o0, st h2 I2 J1) := e2
    have e40g : hR g 40 y = some N := by rw [g40, if_pos rfl]
    have hT0 : rn (d + 100) 136 [iR (some 3), iI (y : Int)] (st h I J) = some (oI 0, st h2 (up I2 3 15 0) J1) := by
      have hx : xsR (st h1 I1 J1) 40 (y : Int) (some N) = fun K => K (st g I1 J1) := by
        funext K
        rw [xsR_5 (len := 2) (by rw [(q 40 (by omega)).1]; exact aT_40 s) (La_t sl) (by omega) (by omega) (by rw [(q 40 (by omega)).2.1]; exact aL_40 s) (by omega) (by omega), Int.toNat_natCast, eg]
      rw [r_T_image, e_T_image, if_neg (by omega), if_pos (by omega), ygR (aT_3 s) (aR_3_3 s), xB_s, yaR (Or.inr (aT_40 s)) (aL_40 s) (by omega) (by omega), Int.toNat_natCast, e40]
      dsimp only
      rw [ygR (aT_3 s) (aR_3_3 s), cOb eN (show 10 + 1 = 11 from rfl) (show am_nf 1 = 15 from rfl), e1', kV_o, xB_s, hx]
      dsimp only
      rw [ygR t3g (aR_3_3 sg), xB_s, yaR (Or.inr (aT_40 sg)) (aL_40 sg) (by omega) (by omega), Int.toNat_natCast, e40g, ygR t3g (aR_3_0 sg), xB_s, yck (La_t slg), e2', kV_o, yck (aT_3 s2), s_taken (d := d + 98) s2, kI_o]
    have m2 : ShM h2 88 := ShM_tr m (fun b b1 b2 => ⟨(low b b2).1, (low b b2).2.1⟩) ((low 88 (by omega)).2.2 (by omega))
    obtain ⟨I3, b1, b2, b3, b4, b5⟩ := m_image (d := d + 98) (J := J1) (I := up I2 3 15 0) m2 hy
    obtain ⟨own', eo⟩ : ∃ own' : Nat → Nat, own' = fun b => if N ≤ b then N else own b := ⟨_, rfl⟩
    have ow1 : ∀ b, b < N → own' b = own b := fun b hb => by rw [eo]; exact if_neg (by omega)
    have ow2 : ∀ b, N ≤ b → own' b = N := fun b hb => by rw [eo]; exact if_pos hb
    have rowO : ∀ b, b < N → b ≠ 3 → b ≠ 88 → b ≠ 91 → b ≠ 92 → I3 b = I b := fun b hb q1 q2 q3 q4 => by
      rw [b2 b q2 q3 q4, up_na q1, cp.o (Or.inl hb), (q b hb).2.2.2]
    have x : HX h h2 I I3 own own' N := by
      refine ⟨by rw [p3, gN, n1, eN]; omega, fun b hb => ow1 b (by omega), fun b c1 c2 _ => ?_⟩
      rw [eN] at c2
      exact ⟨by rw [p1, gT]; exact (q b c2).1, by rw [p2, gL]; exact (q b c2).2.1, by rw [p5 b (by omega), gR b (by omega)]; exact (q b c2).2.2.1, rowO b c2 (by omega) (by omega) (by omega) (by omega)⟩
    have ne : ∀ z len, 0 < len → Bk own (hN h) z len → z ≠ N := fun z len hl hz => by
      have := hz.2.1
      omega
    have I3a : ∀ b, N ≤ b → I3 b = I2 b := fun b hb => by rw [b2 b (by omega) (by omega) (by omega), up_na (by omega)]
    refine ⟨0, h2, up I2 3 15 0, J1, h2, I3, J1, hT0, b1, ⟨⟨by rw [(low 0 (by omega)).1]; exact v.sc.1, by rw [(low 0 (by omega)).2.1]; exact v.sc.2.1, by rw [up_na (by omega), cp.o (Or.inl (by omega)), (q 0 (by omega)).2.2.2]; exact v.sc.2.2⟩, m2⟩, Inv.img hy u1 u2 u3 u4 u5 u6 u7 u8 x (fun z _ hz => ne z 7 (by omega) hz) (fun z _ hz => ne z 1 (by omega) hz) (fun w z hw1 _ hz => ne z 12 (by omega) (iw w z hw1 hz).2) low (fun w => ?_) (fun b hb q1 q2 q3 q4 => rowO b (by omega) q1 q2 q3 q4) (fun i => ?_) (fun i => ?_) (fun i => ?_) (fun w i hw1 hi => ?_) ?_ ?_ ?_ ?_⟩
    · rw [p5 40 (by omega), g40]
    · rw [b2 3 (by omega) (by omega) (by omega), up_at, cp.o (Or.inl (by omega)), (q 3 (by omega)).2.2.2]
    · rw [b3, up_na (by omega), cp.o (Or.inl (by omega)), (q 88 (by omega)).2.2.2]
    · rw [b4, up_na (by omega), cp.o (Or.inl (by omega)), (q 92 (by omega)).2.2.2]
    · rw [b5 w i hw1 hi]
      unfold imK
      rw [up_na (by omega), up_na (by omega), cp.o (Or.inl (by omega)), cp.o (Or.inl (by omega)), (q 90 (by omega)).2.2.2, (q 91 (by omega)).2.2.2]
    · exact slg.R ⟨p1, p2⟩ (p5 N (by omega))
    · exact ⟨hN118, by rw [p3, gN, n1]; omega, fun i hi => ow2 _ (by omega)⟩
    · refine ⟨⟨LW, ?_, kk, hA⟩, fun j z hz => ?_⟩
      · have rg : RL g I1 4 (I 90) LW := r.tr (fun b b1 b2 => (q b (by omega)).2.2.2) g15 fun j z hz b b1 b2 => by
          have := (hw j z hz).2
          have w1 := this.1
          have w2 := this.2.1
          exact ⟨by rw [gT]; exact (q b (by omega)).1, by rw [gL]; exact (q b (by omega)).2.1, by rw [gR b (by omega)]; exact (q b (by omega)).2.2.1, (q b (by omega)).2.2.2⟩
        have ld : LdR I1 N := by
          have l0 := o3
          have lr : ∀ i, 0 < i → i < 12 → I1 (N + i) = landR i := fun i i1 i2 => by rw [(y1 (N + i) (by omega) (by omega)).1, show N + i - N = i by omega]
          refine ⟨fun b b1 b2 kx => ?_, fun kx => ?_, fun kx => ?_, fun kx => ?_⟩
          · by_cases z : b = N
            · rw [z, o3]
              unfold inr
              dsimp only
              split <;> omega
            · have := lr (b - N) (by omega) (by omega)
              rw [show N + (b - N) = b by omega] at this
              rw [this]
              unfold landR inr
              (repeat' split) <;> omega
          · rw [lr 3 (by omega) (by omega)]
            exact (show 0 ≤ (0 : Int) ∧ (0 : Int) ≤ 9 by omega)
          · rw [lr 5 (by omega) (by omega)]
            exact (show 0 ≤ (0 : Int) ∧ (0 : Int) ≤ 99 by omega)
          · rw [lr 7 (by omega) (by omega)]
            exact (show 0 ≤ (0 : Int) ∧ (0 : Int) < 128 by omega)
        have rc : RL h2 I2 N (I 90) LW := rg.copy cp ld (by omega) p6 (by omega) (fun j z hj hz b b1 b2 => by
          rw [g15] at hz
          have := (hw j z hz).2
          have w2 := this.2.1
          exact ⟨by rw [p1], by rw [p2], p5 b (by omega), cp.o (Or.inl (by omega))⟩) (cp.o (by omega))
        exact rc.tr (fun b c1 c2 => I3a b (by omega)) rfl fun j z hz b c1 c2 => by
          by_cases jj : j < 6
          · rw [p6 j jj, g15] at hz
            have := (hw j z hz).2.1
            exact ⟨rfl, rfl, rfl, by rw [b2 b (by omega) (by omega) (by omega), up_na (by omega)]⟩
          · rw [p7 j (by omega), gR (N + 11) (by omega), nl] at hz
            cases hz
      · by_cases jj : j < 6
        · rw [p6 j jj, g15] at hz
          have := hw j z hz
          exact ⟨by rw [p1, gT, (q z (by have := this.2.2.1; omega)).1]; exact this.1, x.bk this.2⟩
        · rw [p7 j (by omega), gR (N + 11) (by omega), nl] at hz
          cases hz
    · obtain ⟨w1, w2, w3⟩ := u9
      have hSm : hS (mkc h N 11 15) = hS h + 15 := mkc_S 15
      refine ⟨by omega, by rw [p3, gN, n1]; omega, ?_⟩
      rw [p3, gN, n1, p4, gS, z1, hSm, (low 83 (by omega)).2.2 (by omega)]
      rcases w3 with ⟨w4, w5, w6⟩ | ⟨w4, w5, w6⟩
      · exact Or.inl ⟨w4, by omega, by omega⟩
      · exact Or.inr ⟨w4, by omega, by omega⟩
  · -- the LAND that is there
    have h118 := bka.1
    obtain ⟨⟨LWa, ra, kka, hAa⟩, hwa⟩ := id va
    obtain ⟨h2, I2, ⟨⟨p1, p2, p3, p4⟩, p5, p6, p7⟩, cp, e2⟩ := s_cpF (d := d + 98) (I := I) (J := J) (h := h) (a := a) (b := 4) la (ShT_4 s) (aT_1 s) (aL_1 s) (by omega) (fun j z hj hz => by
      have := hw j z hz
      exact ⟨this.1, by have := this.2.1; omega⟩)
    have low : ∀ b, b < 118 → hT h2 b = hT h b ∧ hL h2 b = hL h b ∧ (b ≠ 40 → hR h2 b = hR h b) := fun b hb => ⟨by rw [p1], by rw [p2], fun z => p5 b (by omega)⟩
    have s2 := ShT_low s low
    have e2' : rn (d + 99) 9 [iR (some a), iR (some 4)] (st h I J) = some (o0, st h2 I2 J) := e2
    have hT0 : rn (d + 100) 136 [iR (some 3), iI (y : Int)] (st h I J) = some (oI 0, st h2 (up I2 3 15 0) J) := by
      rw [r_T_image, e_T_image, if_neg (by omega), if_pos (by omega), ygR (aT_3 s) (aR_3_3 s), xB_s, yaR (Or.inr (aT_40 s)) (aL_40 s) (by omega) (by omega), Int.toNat_natCast, e40]
      dsimp only
      rw [ygR (aT_3 s) (aR_3_3 s), xB_s, yaR (Or.inr (aT_40 s)) (aL_40 s) (by omega) (by omega), Int.toNat_natCast, e40, ygR (aT_3 s) (aR_3_0 s), xB_s, yck (La_t la), e2', kV_o, yck (aT_3 s2), s_taken (d := d + 98) s2, kI_o]
    have m2 : ShM h2 88 := ShM_tr m (fun b b1 b2 => ⟨(low b b2).1, (low b b2).2.1⟩) ((low 88 (by omega)).2.2 (by omega))
    obtain ⟨I3, b1, b2, b3, b4, b5⟩ := m_image (d := d + 98) (J := J) (I := up I2 3 15 0) m2 hy
    have rowO : ∀ b, (b < a ∨ a + 10 < b) → b ≠ 3 → b ≠ 88 → b ≠ 91 → b ≠ 92 → I3 b = I b := fun b hb q1 q2 q3 q4 => by
      rw [b2 b q2 q3 q4, up_na q1, cp.o hb]
    have owa : ∀ b, a ≤ b → b < a + 12 → own b = a := fun b c1 c2 => by
      have := bka.2.2 (b - a) (by omega)
      rw [show a + (b - a) = b by omega] at this
      exact this
    have x : HX h h2 I I3 own own a := by
      refine ⟨by rw [p3]; omega, fun b hb => rfl, fun b c1 c2 c3 => ?_⟩
      have : b < a ∨ a + 12 ≤ b := by
        apply Classical.byContradiction
        intro z
        exact c3 (owa b (by omega) (by omega))
      exact ⟨by rw [p1], by rw [p2], p5 b (by omega), rowO b (by omega) (by omega) (by omega) (by omega) (by omega)⟩
    have ta := La_t la
    have neI : ∀ w z, w ≤ 1 → w ≠ y → hR h 40 w = some z → z ≠ a := fun w z hw1 hwy hz => by
      have : (w = 0 ∧ y = 1) ∨ (w = 1 ∧ y = 0) := by omega
      rcases this with ⟨rfl, rfl⟩ | ⟨rfl, rfl⟩
      · exact u3.2 z a hz e40
      · exact fun u => u3.2 a z e40 hz u.symm
    refine ⟨0, h2, up I2 3 15 0, J, h2, I3, J, hT0, b1, ⟨⟨by rw [(low 0 (by omega)).1]; exact v.sc.1, by rw [(low 0 (by omega)).2.1]; exact v.sc.2.1, by rw [up_na (by omega), cp.o (Or.inl (by omega))]; exact v.sc.2.2⟩, m2⟩, Inv.img hy u1 u2 u3 u4 u5 u6 u7 u8 x (fun z hz _ w => by rw [w, ta] at hz; omega) (fun z hz _ w => by rw [w, ta] at hz; omega) neI low (fun w => ?_) (fun b hb q1 q2 q3 q4 => rowO b (by omega) q1 q2 q3 q4) (fun i => ?_) (fun i => ?_) (fun i => ?_) (fun w i hw1 hi => ?_) ?_ ?_ ?_ ?_⟩
    · rw [p5 40 (by omega)]
      by_cases z : w = y
      · rw [if_pos z, z, e40]
      · rw [if_neg z]
    · rw [b2 3 (by omega) (by omega) (by omega), up_at, cp.o (Or.inl (by omega))]
    · rw [b3, up_na (by omega), cp.o (Or.inl (by omega))]
    · rw [b4, up_na (by omega), cp.o (Or.inl (by omega))]
    · rw [b5 w i hw1 hi]
      unfold imK
      rw [up_na (by omega), up_na (by omega), cp.o (Or.inl (by omega)), cp.o (Or.inl (by omega))]
    · exact la.R ⟨p1, p2⟩ (p5 a (by omega))
    · rw [p3]
      exact bka
    · have ht : ∀ j z, hR h 15 j = some z → ∀ b, z ≤ b → b ≤ z + 6 → hT h2 b = hT h b ∧ hL h2 b = hL h b ∧ hR h2 b = hR h b ∧ I3 b = I b := fun j z hz b c1 c2 => by
        have w := hw j z hz
        exact x.sm w.2 (fun u => by rw [u, ta] at w; have := w.1; omega) b c1 (by omega)
      have rc : RL h2 I2 a (I 90) LW := r.copy cp ra.ldr (by omega) p6 (by omega) (fun j z hj hz b c1 c2 => by
        have w := hw j z hz
        have t4 := ht j z hz b c1 c2
        have w1 := w.2.1
        have e3 : I3 b = I2 b := by rw [b2 b (by omega) (by omega) (by omega), up_na (by omega)]
        exact ⟨t4.1, t4.2.1, t4.2.2.1, by rw [← e3]; exact t4.2.2.2⟩) (cp.o (by omega))
      refine ⟨⟨LW, rc.tr (fun b c1 c2 => by rw [b2 b (by omega) (by omega) (by omega), up_na (by omega)]) rfl (fun j z hz b c1 c2 => ?_), kk, hA⟩, fun j z hz => ?_⟩
      · have z118 : 118 ≤ z := by
          by_cases jj : j < 6
          · rw [p6 j jj] at hz
            exact (hw j z hz).2.1
          · rw [p7 j (by omega)] at hz
            exact (hwa j z hz).2.1
        exact ⟨rfl, rfl, rfl, by rw [b2 b (by omega) (by omega) (by omega), up_na (by omega)]⟩
      · by_cases jj : j < 6
        · rw [p6 j jj] at hz
          rw [p1, p3]
          exact hw j z hz
        · rw [p7 j (by omega)] at hz
          rw [p1, p3]
          exact hwa j z hz
    · obtain ⟨w1, w2, w3⟩ := u9
      refine ⟨by omega, by rw [p3]; exact w2, ?_⟩
      rw [p3, p4, (low 83 (by omega)).2.2 (by omega)]
      rcases w3 with ⟨w4, w5, w6⟩ | ⟨w4, w5, w6⟩
      · exact Or.inl ⟨w4, by omega, by omega⟩
      · exact Or.inr ⟨w4, by omega, by omega⟩
end P98o
