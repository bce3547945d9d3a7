/-! The call law (by program, wip/whole/gen98q.py) -/
theorem xsR_4 {h : IH} {I J : Nat → Nat → Int} {K : IH → Option IR} {a v len : Nat} {j : Int} (t : hT h a = 4) (tv : hT h v = 19) (a3 : 3 ≤ a) (v3 : 3 ≤ v) (l : hL h a = len) (e1 : 0 ≤ j) (e2 : j < (len : Int)) : xsR (st h I J) a j (some v) K = K (st (sR h (upR (hR h) a j.toNat (some v))) I J) := by
  unfold xsR
  dsimp only
  rw [if_pos ⟨⟨Or.inl ⟨t, tv⟩, a3, v3⟩, e1, by show j < (hL h a : Int); rw [l]; exact e2⟩]
  rfl
theorem ShT_15 {h h' : IH} (hs : ShT h) (low : ∀ b, b < 118 → hT h' b = hT h b ∧ hL h' b = hL h b ∧ (b ≠ 15 → hR h' b = hR h b)) : ShT h' := by
  obtain ⟨⟨g1, g2⟩, g3, g4, g5, g6, g7, ⟨g8, g9⟩, g10, g11, g12, g13, g14, g15, g16, g17, g18, ⟨g19, g20⟩, g21, g22⟩ := hs
  have q : ∀ b, b < 118 → b ≠ 15 → hT h' b = hT h b ∧ hL h' b = hL h b ∧ hR h' b = hR h b := fun b b1 b2 => ⟨(low b b1).1, (low b b1).2.1, (low b b1).2.2 b2⟩
  have q3 := (q 3 (by omega) (by omega)).2.2
  have l4 : ShLand h' 4 := by
    obtain ⟨x1, x2, x3, ⟨t1, t2, t3, t4, t5, t6, t7, t8, t9, t10, t11⟩, ⟨l1, l2, l3, l4, l5, l6, l7, l8, l9, l10, l11⟩⟩ := g5
    exact ⟨x1, by rw [(low 4 (by omega)).1]; exact x2, by rw [(q 4 (by omega) (by omega)).2.2]; exact x3, ⟨by rw [(low (4 + 1) (by omega)).1]; exact t1, by rw [(low (4 + 2) (by omega)).1]; exact t2, by rw [(low (4 + 3) (by omega)).1]; exact t3, by rw [(low (4 + 4) (by omega)).1]; exact t4, by rw [(low (4 + 5) (by omega)).1]; exact t5, by rw [(low (4 + 6) (by omega)).1]; exact t6, by rw [(low (4 + 7) (by omega)).1]; exact t7, by rw [(low (4 + 8) (by omega)).1]; exact t8, by rw [(low (4 + 9) (by omega)).1]; exact t9, by rw [(low (4 + 10) (by omega)).1]; exact t10, by rw [(low (4 + 11) (by omega)).1]; exact t11⟩, ⟨by rw [(low (4 + 1) (by omega)).2.1]; exact l1, by rw [(low (4 + 2) (by omega)).2.1]; exact l2, by rw [(low (4 + 3) (by omega)).2.1]; exact l3, by rw [(low (4 + 4) (by omega)).2.1]; exact l4, by rw [(low (4 + 5) (by omega)).2.1]; exact l5, by rw [(low (4 + 6) (by omega)).2.1]; exact l6, by rw [(low (4 + 7) (by omega)).2.1]; exact l7, by rw [(low (4 + 8) (by omega)).2.1]; exact l8, by rw [(low (4 + 9) (by omega)).2.1]; exact l9, by rw [(low (4 + 10) (by omega)).2.1]; exact l10, by rw [(low (4 + 11) (by omega)).2.1]; exact l11⟩⟩
  refine ⟨⟨by rw [(q 1 (by omega) (by omega)).1, g1], by rw [(q 1 (by omega) (by omega)).2.1, g2]⟩, by rw [(q 3 (by omega) (by omega)).1, g3], by rw [q3]; exact g4, l4, La_tr g6 fun b b1 b2 => q b (by omega) (by omega), La_tr g7 fun b b1 b2 => q b (by omega) (by omega), ⟨by rw [(low 40 (by omega)).1, g8], by rw [(low 40 (by omega)).2.1, g9]⟩, Tp_tr g10 fun b b1 b2 => q b (by omega) (by omega), Rd_tr g11 fun b b1 b2 => q b (by omega) (by omega), Ju_tr g12 fun b b1 b2 => q b (by omega) (by omega), Mo_tr g13 fun b b1 b2 => q b (by omega) (by omega), Rn_tr g14 fun b b1 b2 => q b (by omega) (by omega), Ps_tr g15 fun b b1 b2 => q b (by omega) (by omega), Ps_tr g16 fun b b1 b2 => q b (by omega) (by omega), Pa_tr g17 fun b b1 b2 => q b (by omega) (by omega), Wh_tr g18 fun b b1 b2 => q b (by omega) (by omega), ⟨by rw [(q 86 (by omega) (by omega)).1, g19], by rw [(q 86 (by omega) (by omega)).2.1, g20]⟩, by rw [(q 87 (by omega) (by omega)).1, g21], by rw [(q 87 (by omega) (by omega)).2.1, g22]⟩
section P98q
variable {d k L n : Nat} {I I' I1 I2 J : Nat → Nat → Int} {a b c : Nat} {h h' g : IH} {K K' : Nat → Int} {LW : Nat → Nat × (Nat → Cls)} {own own' : Nat → Nat} {xs : Nat → Int32} {x : Int}
theorem refT_87 {x : Int} (i : Nat) : refT x I 87 i = if i = plc x then I 87 (plc x) + 1 else I 87 i := by
  unfold refT
  rw [up_at, up_na (by omega)]
theorem IvR.ref (v : IvR I k) (r : RfV x) (h15 : I' 3 15 = I' 88 0) (h16 : I' 3 16 = I' 88 6) (h17 : I' 3 17 = I' 88 47) (e87 : ∀ i, I' 87 i = if i = plc x then I 87 (plc x) + 1 else I 87 i) (e89 : ∀ i, I' 89 i = if i = (-x).toNat then I 89 (-x).toNat + 1 else I 89 i) : IvR I' (k + 1) := by
  obtain ⟨-, ⟨p0, p1, p2, p3, p4⟩, b⟩ := v
  refine ⟨⟨h15, h16, h17⟩, ?_, fun j hj => ?_⟩
  · rw [e87, e87, e87, e87, e87, e89, e89, e89, e89, e89]
    unfold RfV at r
    rcases r with rfl | rfl | rfl | rfl | rfl
    · have z : plc (-1) = 0 := rfl
      rw [z, p0, p1, p2, p3, p4]
      exact ⟨rfl, rfl, rfl, rfl, rfl⟩
    · have z : plc (-2) = 1 := rfl
      rw [z, p0, p1, p2, p3, p4]
      exact ⟨rfl, rfl, rfl, rfl, rfl⟩
    · have z : plc (-3) = 2 := rfl
      rw [z, p0, p1, p2, p3, p4]
      exact ⟨rfl, rfl, rfl, rfl, rfl⟩
    · have z : plc (-5) = 3 := rfl
      rw [z, p0, p1, p2, p3, p4]
      exact ⟨rfl, rfl, rfl, rfl, rfl⟩
    · have z : plc (-6) = 4 := rfl
      rw [z, p0, p1, p2, p3, p4]
      exact ⟨rfl, rfl, rfl, rfl, rfl⟩
  · rw [e87]
    have b1 := b j hj
    have b2 := b (plc x) r.p.1
    split <;> omega
/-- all that holds, put together anew -/
theorem Inv.gen3 (u1 : IvB L xs h I) (u3 : (IvI h I own 0 ∧ IvI h I own 1) ∧ ∀ x y, hR h 40 0 = some x → hR h 40 1 = some y → x ≠ y) (u6 : IvC I) (u8 : IvW h I own) (x : HX h h' I I' own own' a) (ne : ∀ z len, Bk own (hN h) z len → 0 < len → z ≠ a) (sT : ShT h') (low : ∀ b, b < 118 → hT h' b = hT h b ∧ hL h' b = hL h b ∧ (b ≠ 43 → b ≠ 15 → hR h' b = hR h b)) (c : ∀ b, (b = 0 ∨ b = 1 ∨ (28 ≤ b ∧ b ≤ 40) ∨ b = 83 ∨ b = 85 ∨ b = 91 ∨ b = 92 ∨ b = 94 ∨ b = 117) → I' b = I b) (e55 : I' 88 55 = I 88 55) (hr : IvR I' (k + 1)) (hl : IvL h' I' own' 4 (I' 90)) (ht : IvT I') (hp : IvP I') (hn : IvN h' (k + 1)) : Inv L xs (k + 1) h' I' := by
  have n12 : ∀ y z, IvI h I own y → hR h 40 y = some z → z ≠ a := fun y z v hz => by
    rcases v with ⟨w, -⟩ | ⟨q, w, -, -, w4, -⟩
    · rw [w] at hz
      cases hz
    · rw [w] at hz
      have e := Option.some.inj hz
      exact ne z 12 (by rw [← e]; exact w4) (by omega)
  refine ⟨own', ?_, hl, ⟨⟨u3.1.1.hx x (fun z _ hz => ne z 7 hz (by omega)) (fun z hz => n12 0 z u3.1.1 hz) (by rw [(low 40 (by omega)).2.2 (by omega) (by omega)]) (by rw [c 92 (by omega)]) (fun i _ => by unfold imK; rw [c 91 (by omega)]), u3.1.2.hx x (fun z _ hz => ne z 7 hz (by omega)) (fun z hz => n12 1 z u3.1.2 hz) (by rw [(low 40 (by omega)).2.2 (by omega) (by omega)]) (by rw [c 92 (by omega)]) (fun i _ => by unfold imK; rw [c 91 (by omega)])⟩, by rw [(low 40 (by omega)).2.2 (by omega) (by omega)]; exact u3.2⟩, ht, hp, u6.fr (fun b b1 b2 => c b (by omega)) (c _ (by omega)) e55, hr, u8.hx x (fun z _ hz => ne z 1 hz (by omega)) ((low 83 (by omega)).2.2 (by omega) (by omega)) (c _ (by omega)) (c _ (by omega)), hn⟩
  obtain ⟨t1, t2, ⟨t3, t4, t5⟩, t6, t7⟩ := u1
  exact ⟨sT, ShM_tr t2 (fun b b1 b2 => ⟨(low b b2).1, (low b b2).2.1⟩) ((low 88 (by omega)).2.2 (by omega) (by omega)), ⟨by rw [(low 0 (by omega)).1]; exact t3, by rw [(low 0 (by omega)).2.1]; exact t4, by rw [c 0 (by omega)]; exact t5⟩, by rw [c 1 (by omega)]; exact t6, by rw [c 94 (by omega)]; exact t7⟩
/-- one more LAW -/
theorem RL.told (r : RL h I 4 K LW) (k : KOk K) {t N cc : Nat} {CL : Nat → Cls} (et : K 185 = (t : Int)) (ht : t < 6) (e : ∀ i, i < 187 → i ≠ 185 → K' i = K i) (e185 : K' 185 = (t : Int) + 1) (h13 : ∀ i, I' 4 i = if i = 13 then (t : Int) + 1 else I 4 i) (hI : ∀ b, 5 ≤ b → b ≤ 15 → I' b = I b) (hR1 : ∀ j, hR h' 15 j = if j = t then some N else hR h 15 j) (hN1 : 118 ≤ N) (hx : TxM h' I' N cc CL) (hs : ∀ j y : Nat, (j : Int) < K 185 → hR h 15 j = some y → Sm h h' I I' y (y + 6)) : RL h' I' 4 K' (fun j => if j = t then (cc, CL) else LW j) := by
  obtain ⟨r1, r2, ⟨r3, r4, r5⟩, ⟨r6, r7, r8⟩, ⟨r9, r10⟩, ⟨r11, r12, r13⟩, r14, r15, r16, r17⟩ := r
  refine ⟨by rw [h13, if_neg (by omega), e 183 (by omega) (by omega)]; exact r1, fun t q => ?_, ⟨fun s q => ?_, fun i q => ?_, fun x y hx hy => ?_⟩, ⟨?_, ?_, ?_⟩, ⟨?_, fun i q => ?_⟩, ⟨?_, ?_, fun j hj => ?_⟩, fun b b1 b2 q => ?_, by rw [hI (4 + 3) (by omega) (by omega)]; exact r15, by rw [hI (4 + 5) (by omega) (by omega)]; exact r16, by rw [hI (4 + 7) (by omega) (by omega)]; exact r17⟩
  · rw [hI (4 + 1) (by omega) (by omega), hI (4 + 2) (by omega) (by omega), e 183 (by omega) (by omega), e t (by omega) (by omega), atK_cg k.1 (fun i hi => e i (by omega) (by omega)) (e 183 (by omega) (by omega))]
    exact r2 t q
  · rw [hI (4 + 3) (by omega) (by omega), hI (4 + 4) (by omega) (by omega), e (7 + s) (by omega) (by omega), e (113 + s) (by omega) (by omega)]
    exact r3 s q
  · rw [hI (4 + 5) (by omega) (by omega), hI (4 + 6) (by omega) (by omega), e (14 + i) (by omega) (by omega), e (120 + i) (by omega) (by omega)]
    exact r4 i q
  · rw [hI (4 + 7) (by omega) (by omega), e (63 + (7 * x + y)) (by omega) (by omega)]
    exact r5 x y hx hy
  · rw [hI (4 + 8) (by omega) (by omega), e 112 (by omega) (by omega)]
    exact r6
  · rw [hI (4 + 8) (by omega) (by omega), e 181 (by omega) (by omega)]
    exact r7
  · rw [hI (4 + 8) (by omega) (by omega), e 182 (by omega) (by omega)]
    exact r8
  · rw [h13, if_neg (by omega), e 184 (by omega) (by omega)]
    exact r9
  · rw [hI (4 + 9) (by omega) (by omega), hI (4 + 10) (by omega) (by omega), e (169 + 2 * i) (by omega) (by omega), e (170 + 2 * i) (by omega) (by omega)]
    exact r10 i q
  · rw [h13, if_pos rfl, e185]
  · rw [h13, if_neg (by omega), e 186 (by omega) (by omega)]
    exact r12
  · rw [e185] at hj
    by_cases z : j = t
    · exact ⟨N, by show hR h' 15 j = some N; rw [hR1, if_pos z], hN1, by show TxM h' I' N (if j = t then (cc, CL) else LW j).1 (if j = t then (cc, CL) else LW j).2; rw [if_pos z]; exact hx⟩
    · obtain ⟨y, y1, y2, y3⟩ := r13 j (by omega)
      exact ⟨y, by show hR h' 15 j = some y; rw [hR1, if_neg z]; exact y1, y2, by show TxM h' I' y (if j = t then (cc, CL) else LW j).1 (if j = t then (cc, CL) else LW j).2; rw [if_neg z]; exact y3.tr (hs j y (by omega) y1)⟩
  · by_cases z : b = 4
    · rw [z, h13]
      split
      · unfold inr
        omega
      · exact r14 4 (by omega) (by omega) q
    · rw [hI b (by omega) (by omega)]
      exact r14 b b1 b2 q
theorem KOk.told (k : KOk K) {t : Nat} (et : K 185 = (t : Int)) (ht : t < 6) (e : ∀ i, i < 187 → i ≠ 185 → K' i = K i) (e185 : K' 185 = (t : Int) + 1) : KOk K' := by
  obtain ⟨k1, ⟨k2, k2b⟩, ⟨k3, k4, k5, k6⟩, k7, ⟨k10, k11⟩, k12, k13⟩ := k
  have e183 := e 183 (by omega) (by omega)
  refine ⟨by rw [e183]; exact k1, ⟨fun u hu => ?_, fun s hs => ?_⟩, ⟨fun s hs => ?_, fun i hi => ?_, fun x y hx hy => ?_, fun x hx => ?_⟩, ?_, ⟨?_, fun i hi => ?_⟩, ?_, ?_⟩
  · rw [e183] at hu ⊢
    rw [e u (by omega) (by omega)]
    exact k2 u hu
  · rw [e183] at hs
    obtain ⟨u, u1, u2⟩ := k2b s hs
    exact ⟨u, by rw [e183]; exact u1, by rw [e u (by omega) (by omega)]; exact u2⟩
  · rw [e (7 + s) (by omega) (by omega), e (113 + s) (by omega) (by omega)]
    exact k3 s hs
  · rw [e (14 + i) (by omega) (by omega), e (63 + i) (by omega) (by omega), e (120 + i) (by omega) (by omega)]
    exact k4 i hi
  · rw [e (63 + (7 * x + y)) (by omega) (by omega), e (63 + (7 * y + x)) (by omega) (by omega)]
    exact k5 x y hx hy
  · rw [e (120 + 8 * x) (by omega) (by omega)]
    exact k6 x hx
  · rw [e 112 (by omega) (by omega), e 181 (by omega) (by omega), e 182 (by omega) (by omega)]
    exact k7
  · rw [e 184 (by omega) (by omega)]
    exact k10
  · rw [e 184 (by omega) (by omega)] at hi
    rw [e183, e (169 + 2 * i) (by omega) (by omega), e (170 + 2 * i) (by omega) (by omega)]
    exact k11 i hi
  · rw [e185]
    omega
  · rw [e185, e 186 (by omega) (by omega)]
    omega
theorem sRg (h : IH) : ∃ g, g = sR h (upR (hR h) 43 2 (some 42)) ∧ hT g = hT h ∧ hL g = hL h ∧ hN g = hN h ∧ hS g = hS h ∧ ∀ b, b ≠ 43 → hR g b = hR h b := ⟨_, rfl, rfl, rfl, rfl, rfl, fun b z => upR_na z⟩
theorem C_law (v : Inv L xs k h I) (hk : k < 1000) : Cal L xs k h I J 109 203 [] := by
  obtain ⟨own, u1, u2, u3, u4, u5, u6, u7, u8, u9⟩ := id v
  obtain ⟨⟨LW, r, kk, hA⟩, hw⟩ := id u2
  have s := v.t
  have m := v.m
  have hn := kk.1
  have k185 := kk.2.2.2.2.2.1
  obtain ⟨⟨t1, t2, t3⟩, t4, t5, t6⟩ := id u4
  have e13 : I 4 13 = I 90 185 := r.2.2.2.2.2.1.1
  have hN118 := u9.2.1
  intro d
  by_cases c6 : I 90 185 = 6
  · -- no room
    have rv : RfV (-5) := by unfold RfV; omega
    obtain ⟨I1, eI1⟩ : ∃ I1, I1 = refT (-5) (up I 41 1 0) := ⟨_, rfl⟩
    obtain ⟨I2, eI2⟩ : ∃ I2, I2 = refM (-5) (up I1 88 13 0) := ⟨_, rfl⟩
    have hb := v.b87 rv
    have hT0 : rn (d + 100) 109 [iR (some 3)] (st h I J) = some (oI (-5), st h I1 J) := by
      rw [r_T_law, e_T_law, ygR (aT_3 s) (aR_3_0 s), xB_s, ygIv (aT_4 s) e13, if_neg (by omega), ygR (aT_3 s) (aR_3_4 s), xB_s, ypI (aT_41 s) (by omega), yck (aT_3 s), s_refT (d := d + 98) s (x := -5) rv (by rw [up_na (by omega)]; exact hb.1), kI_o, eI1]
    have f1 : ∀ b, b ≠ 3 → b ≠ 41 → b ≠ 87 → I1 b = I b := fun b q1 q2 q3 => by rw [eI1, refT_n q1 q3, up_na q2]
    have hM0 : rn (d + 100) 203 [iR (some 88)] (st h I1 J) = some (oI (-5), st h I2 J) := by
      rw [r_M_law, e_M_law, ygR (bT_88 m) (bR_2 m), xB_s, yaIv (i := 185) (j := 185) (x := 6) (bT_90 m) (bL_90 m) rfl (by omega) (by rw [f1 90 (by omega) (by omega) (by omega), c6]), if_pos rfl, ypI (bT_88 m) (by omega), yck (bT_88 m), s_refM (d := d + 98) m (x := -5) rv (by rw [up_na (by omega), f1 89 (by omega) (by omega) (by omega)]; exact hb.2), kI_o, eI2]
    have f2 : ∀ b, b ≠ 88 → b ≠ 89 → I2 b = I1 b := fun b q1 q2 => by rw [eI2]; unfold refM; rw [up_na q2, up_na q1, up_na q1]
    have ff : ∀ b, b ≠ 3 → b ≠ 41 → b ≠ 87 → b ≠ 88 → b ≠ 89 → I2 b = I b := fun b q1 q2 q3 q4 q5 => by rw [f2 b q4 q5, f1 b q1 q2 q3]
    have g88 : ∀ i, I2 88 i = if i = 0 then -5 else if i = 13 then 0 else I 88 i := fun i => by rw [eI2]; unfold refM; rw [up_na (by omega), up_at, up_at, f1 88 (by omega) (by omega) (by omega)]
    have g3 : ∀ i, I2 3 i = if i = 15 then -5 else I 3 i := fun i => by rw [f2 3 (by omega) (by omega), eI1]; unfold refT; rw [up_na (by omega), up_at, up_na (by omega)]
    have g87 : ∀ i, I2 87 i = if i = plc (-5) then I 87 (plc (-5)) + 1 else I 87 i := fun i => by rw [f2 87 (by omega) (by omega), eI1, refT_87, show (up I 41 1 0) 87 = I 87 from up_na (by omega)]
    have g89 : ∀ i, I2 89 i = if i = (-(-5 : Int)).toNat then I 89 (-(-5 : Int)).toNat + 1 else I 89 i := fun i => by rw [eI2]; unfold refM; rw [up_at, show (up (up I1 88 13 0) 88 0 (-5)) 89 = I1 89 by rw [up_na (by omega), up_na (by omega)], show (up I1 88 13 0) 89 = I1 89 from up_na (by omega), f1 89 (by omega) (by omega) (by omega)]
    have g41 : I2 41 1 = 0 := by rw [f2 41 (by omega) (by omega), eI1, refT_n (by omega) (by omega), up_eq]
    have x : HX h h I I2 own own 0 := ⟨Nat.le_refl _, fun _ _ => rfl, fun b b1 b2 _ => ⟨rfl, rfl, rfl, ff b (by omega) (by omega) (by omega) (by omega) (by omega)⟩⟩
    refine ⟨-5, h, I1, J, h, I2, J, hT0, hM0, ⟨⟨v.sc.1, v.sc.2.1, by rw [f1 0 (by omega) (by omega) (by omega)]; exact v.sc.2.2⟩, m⟩, Inv.gen3 u1 u3 u6 u8 x (fun z len hz _ => by have := hz.1; omega) s (fun b _ => ⟨rfl, rfl, fun _ _ => rfl⟩) (fun b hb => ff b (by omega) (by omega) (by omega) (by omega) (by omega)) (by rw [g88, if_neg (by omega), if_neg (by omega)]) (u7.ref rv (by rw [g3, g88, if_pos rfl, if_pos rfl]) (by rw [g3, g88, if_neg (by omega), if_neg (by omega), if_neg (by omega)]; exact u7.1.2.1) (by rw [g3, g88, if_neg (by omega), if_neg (by omega), if_neg (by omega)]; exact u7.1.2.2) g87 g89) (u2.fr (fun b b1 b2 => ff b (by omega) (by omega) (by omega) (by omega) (by omega)) (fun b b1 => ff b (by omega) (by omega) (by omega) (by omega) (by omega)) (ff 90 (by omega) (by omega) (by omega) (by omega) (by omega))) ⟨?_, ?_, ?_, ?_⟩ (u5.fr (ff _ (by omega) (by omega) (by omega) (by omega) (by omega)) (ff _ (by omega) (by omega) (by omega) (by omega) (by omega)) (ff _ (by omega) (by omega) (by omega) (by omega) (by omega)) (by rw [ff 90 (by omega) (by omega) (by omega) (by omega) (by omega)]) (by rw [g88, if_neg (by omega), if_neg (by omega)])) (u9.s hk)⟩
    · rw [g41, g88, if_neg (by omega), if_pos rfl]
      omega
    · rw [ff 42 (by omega) (by omega) (by omega) (by omega) (by omega), ff 95 (by omega) (by omega) (by omega) (by omega) (by omega)]
      exact t4
    · rw [ff 43 (by omega) (by omega) (by omega) (by omega) (by omega), g88, if_neg (by omega), if_neg (by omega)]
      exact t5
    · unfold StOk at *
      rw [ff 45 (by omega) (by omega) (by omega) (by omega) (by omega), ff 46 (by omega) (by omega) (by omega) (by omega) (by omega)]
      exact t6
  have c5 : I 90 185 < 6 := by omega
  obtain ⟨n, en⟩ : ∃ n : Nat, I 88 13 = (n : Int) := ⟨(I 88 13).toNat, by omega⟩
  have hB : ∀ i, 0 ≤ I 42 i ∧ I 42 i ≤ 255 := fun i => (t4 i).1
  obtain ⟨g, eg, gT, gL, gN, gS, gR⟩ := sRg h
  have sg : ShT g := by rw [eg]; exact ShT_p s (some 42)
  obtain ⟨rv, I1, f1, e1, G1⟩ := s_readText (d := d + 65) (J := J) (I := I) (B := I 42) (n := n) (ord := 0) (nw := 9) s (by omega) hB rfl t6 (Or.inl ⟨rfl, rfl⟩)
  rw [← eg] at e1
  have e1' : rn (d + 99) 53 [iR (some 43), iR (some 42), iI (n : Int), iI 0] (st h I J) = some (oI rv, st g I1 J) := e1
  have fo : ∀ b, (b < 43 ∨ 50 < b) → I1 b = I b := fun b hb => f1 b hb
  have hT1 : rn (d + 100) 109 [iR (some 3)] (st h I J) = (if rv = 0 then xck (st g (up I1 41 1 0) J) 3 21 <| kI (rn (d + 99) 142 [iR (some 3), iI (-6)] (st g (up I1 41 1 0) J)) fun x18 h17 => some (oI x18, h17)
 else
 xgR (st g (up I1 41 1 0) J) 3 21 0 fun x19 =>
 xB x19 fun a21 =>
 xgI (st g (up I1 41 1 0) J) a21 11 13 fun x20 =>
 xgR (st g (up I1 41 1 0) J) 3 21 0 fun x22 =>
 xB x22 fun a24 =>
 xgR (st g (up I1 41 1 0) J) a24 11 12 fun x23 =>
 xgR (st g (up I1 41 1 0) J) 3 21 5 fun x25 =>
 xB x25 fun a27 =>
 xgR (st g (up I1 41 1 0) J) a27 15 0 fun x26 =>
 xB x26 fun a28 =>
 xck (st g (up I1 41 1 0) J) a28 19 <|
 kR (rn (d + 99) 87 [iR (some a28)] (st g (up I1 41 1 0) J)) fun x30 h29 =>
 xB x23 fun a32 =>
 xsR h29 a32 x20 x30 fun h31 =>
 xgR h31 3 21 0 fun x33 =>
 xB x33 fun a35 =>
 xgI h31 a35 11 13 fun x34 =>
 xB x33 fun a37 =>
 xpI h31 a37 11 13 (wr (x34 + 1)) fun h36 =>
 xck h36 3 21 <|
 kI (rn (d + 99) 140 [iR (some 3), iI x20] h36) fun x39 h38 =>
 some (oI x39, h38)) := by
    rw [r_T_law, e_T_law, ygR (aT_3 s) (aR_3_0 s), xB_s, ygIv (aT_4 s) e13, if_pos c5, ygR (aT_3 s) (aR_3_5 s), ygR (aT_3 s) (aR_3_4 s), xB_s, ygR (aT_41 s) (aR_41_0 s), ygR (aT_3 s) (aR_3_4 s), xB_s, ygIv (x := (n : Int)) (aT_41 s) (by rw [t1, en]), xB_s, yck (aT_43 s), e1', kI_o, ygR (aT_3 sg) (aR_3_4 sg), xB_s, ypI (aT_41 sg) (by omega)]
  have low43 : ∀ b, b < 118 → hT g b = hT h b ∧ hL g b = hL h b ∧ (b ≠ 43 → b ≠ 15 → hR g b = hR h b) := fun b _ => ⟨by rw [gT], by rw [gL], fun q _ => gR b q⟩
  have mg : ShM g 88 := ShM_R m ⟨gT, gL⟩ (gR 88 (by omega))
  have ww : ∀ i, I 94 i = wordB.getD i 0 := u1.2.2.2.2
  cases ex : aText (I 42) n 0 with
  | inl q =>
    -- a FAULT
    obtain ⟨rno, rv0⟩ := G1.1 q ex
    have rfv : RfV (-6) := by unfold RfV; omega
    have hb := v.b87 rfv
    obtain ⟨Y, eY⟩ : ∃ Y, Y = refT (-6) (up I1 41 1 0) := ⟨_, rfl⟩
    rw [if_pos rv0, yck (aT_3 sg), s_refT (d := d + 98) sg (x := -6) rfv (by rw [up_na (by omega), fo 87 (by omega)]; exact hb.1), kI_o, ← eY] at hT1
    have y0 : ∀ b, b ≠ 3 → b ≠ 41 → b ≠ 87 → (b < 43 ∨ 50 < b) → Y b = I b := fun b q1 q2 q3 q4 => by rw [eY, refT_n q1 q3, up_na q2, fo b q4]
    obtain ⟨Kt, mv, I2, m1, m2, ⟨m3, m4, m5⟩, m6⟩ := s_readsAs (d := d + 61) (J := J) (I := Y) (B := I 42) (n := n) (ord := 0) mg hB (by omega) (Or.inl rfl) (by rw [y0 88 (by omega) (by omega) (by omega) (by omega), en]) (fun i => by rw [y0 94 (by omega) (by omega) (by omega) (by omega)]; exact ww i) (fun i _ => by rw [y0 95 (by omega) (by omega) (by omega) (by omega)]; exact (t4 i).2)
    obtain ⟨m7, m8⟩ := m4 q ex
    obtain ⟨Z, eZ⟩ : ∃ Z, Z = refM (-6) I2 := ⟨_, rfl⟩
    have hM0 : rn (d + 100) 203 [iR (some 88)] (st g Y J) = some (oI (-6), st g Z J) := by
      rw [r_M_law, e_M_law, ygR (bT_88 mg) (bR_2 mg), xB_s, yaIv (i := 185) (j := 185) (x := I 90 185) (bT_90 mg) (bL_90 mg) rfl (by omega) (by rw [y0 90 (by omega) (by omega) (by omega) (by omega)]), if_neg c6, yck (bT_88 mg), m2, kI_o, if_pos m8, yck (bT_88 mg), s_refM (d := d + 98) mg (x := -6) rfv (by rw [m1.1 89 (by omega) (by omega) (by omega) (by omega), y0 89 (by omega) (by omega) (by omega) (by omega)]; exact hb.2), kI_o, eZ]
    have z0 : ∀ b, b ≠ 88 → b ≠ 89 → b ≠ 97 → b ≠ 98 → b ≠ 99 → Z b = Y b := fun b q1 q2 q3 q4 q5 => by rw [eZ]; unfold refM; rw [up_na q2, up_na q1, m1.1 b q1 q3 q4 q5]
    have zz : ∀ b, b ≠ 3 → b ≠ 41 → b ≠ 87 → (b < 43 ∨ 50 < b) → b ≠ 88 → b ≠ 89 → b ≠ 97 → b ≠ 98 → b ≠ 99 → Z b = I b := fun b q1 q2 q3 q4 q5 q6 q7 q8 q9 => by rw [z0 b q5 q6 q7 q8 q9, y0 b q1 q2 q3 q4]
    have z88 : ∀ i, i ≠ 0 → Z 88 i = I2 88 i := fun i hi => by rw [eZ]; unfold refM; rw [up_na (by omega), up_ni hi]
    have z880 : Z 88 0 = -6 := by rw [eZ]; unfold refM; rw [up_na (by omega), up_eq]
    have i88 : ∀ i, (i = 6 ∨ i = 31 ∨ i = 47 ∨ i = 55) → Z 88 i = I 88 i := fun i hi => by rw [z88 i (by omega), m1.2 i (by omega) (by omega) (by omega) (by omega) (by omega) (by omega) (by omega) (by omega) (by omega), y0 88 (by omega) (by omega) (by omega) (by omega)]
    have g3 : ∀ i, Z 3 i = if i = 15 then -6 else I 3 i := fun i => by rw [z0 3 (by omega) (by omega) (by omega) (by omega) (by omega), eY]; unfold refT; rw [up_na (by omega), up_at, up_na (by omega), fo 3 (by omega)]
    have g87 : ∀ i, Z 87 i = if i = plc (-6) then I 87 (plc (-6)) + 1 else I 87 i := fun i => by rw [z0 87 (by omega) (by omega) (by omega) (by omega) (by omega), eY]; unfold refT; rw [up_at, up_na (by omega), up_na (by omega), up_na (by omega), fo 87 (by omega)]
    have g89 : ∀ i, Z 89 i = if i = (-(-6 : Int)).toNat then I 89 (-(-6 : Int)).toNat + 1 else I 89 i := fun i => by rw [eZ]; unfold refM; rw [up_at, up_na (by omega), m1.1 89 (by omega) (by omega) (by omega) (by omega), y0 89 (by omega) (by omega) (by omega) (by omega)]
    have yI1 : ∀ b, 43 ≤ b → b ≤ 50 → Z b = I1 b := fun b q1 q2 => by rw [z0 b (by omega) (by omega) (by omega) (by omega) (by omega), eY, refT_n (by omega) (by omega), up_na (by omega)]
    have x : HX h g I Z own own 0 := ⟨by rw [gN]; omega, fun _ _ => rfl, fun b b1 b2 _ => ⟨by rw [gT], by rw [gL], gR b (by omega), zz b (by omega) (by omega) (by omega) (by omega) (by omega) (by omega) (by omega) (by omega) (by omega)⟩⟩
    refine ⟨-6, g, Y, J, g, Z, J, hT1, hM0, ⟨⟨by rw [gT]; exact v.sc.1, by rw [gL]; exact v.sc.2.1, by rw [y0 0 (by omega) (by omega) (by omega) (by omega)]; exact v.sc.2.2⟩, mg⟩, Inv.gen3 u1 u3 u6 u8 x (fun z len hz _ => by have := hz.1; omega) sg low43 (fun b hb => ?_) (i88 55 (by omega)) (u7.ref rfv (by rw [g3, z880, if_pos rfl]) (by rw [g3, i88 6 (by omega), if_neg (by omega)]; exact u7.1.2.1) (by rw [g3, i88 47 (by omega), if_neg (by omega)]; exact u7.1.2.2) g87 g89) (u2.hx x (fun z _ hz => by have := hz.1; omega) (fun b b1 b2 => zz b (by omega) (by omega) (by omega) (by omega) (by omega) (by omega) (by omega) (by omega) (by omega)) (gR 15 (by omega)) (zz 90 (by omega) (by omega) (by omega) (by omega) (by omega) (by omega) (by omega) (by omega) (by omega))) ⟨?_, ?_, ?_, ?_⟩ (u5.fr (zz _ (by omega) (by omega) (by omega) (by omega) (by omega) (by omega) (by omega) (by omega) (by omega)) (zz _ (by omega) (by omega) (by omega) (by omega) (by omega) (by omega) (by omega) (by omega) (by omega)) (zz _ (by omega) (by omega) (by omega) (by omega) (by omega) (by omega) (by omega) (by omega) (by omega)) (by rw [zz 90 (by omega) (by omega) (by omega) (by omega) (by omega) (by omega) (by omega) (by omega) (by omega)]) (i88 31 (by omega))) ?_⟩
    · by_cases q : b = 43 ∨ (44 ≤ b ∧ b ≤ 50)
      · omega
      · exact zz b (by omega) (by omega) (by omega) (by omega) (by omega) (by omega) (by omega) (by omega) (by omega)
    · rw [z0 41 (by omega) (by omega) (by omega) (by omega) (by omega), eY, refT_n (by omega) (by omega), up_eq, z88 13 (by omega), m6]
      omega
    · rw [zz 42 (by omega) (by omega) (by omega) (by omega) (by omega) (by omega) (by omega) (by omega) (by omega), zz 95 (by omega) (by omega) (by omega) (by omega) (by omega) (by omega) (by omega) (by omega) (by omega)]
      exact t4
    · rw [yI1 43 (by omega) (by omega), z88 14 (by omega), m7]
      exact rno.2.1.1
    · have := rno.2.2.2
      unfold StOk at *
      rw [yI1 45 (by omega) (by omega), yI1 46 (by omega) (by omega)]
      exact this
    · obtain ⟨w1, w2, w3⟩ := u9
      refine ⟨by omega, by rw [gN]; exact w2, ?_⟩
      rw [gN, gS, gR 83 (by omega)]
      rcases w3 with ⟨w4, w5, w6⟩ | ⟨w4, w5, w6⟩
      · exact Or.inl ⟨w4, by omega, by omega⟩
      · exact Or.inr ⟨w4, by omega, by omega⟩
  | inr y =>
    obtain ⟨cc, CL⟩ := y
    obtain ⟨rv1, p, l, mm, ro, e447, hc, tS⟩ := G1.2 cc CL ex
    obtain ⟨t, et⟩ : ∃ t : Nat, I 90 185 = (t : Int) := ⟨(I 90 185).toNat, by omega⟩
    obtain ⟨X, eX⟩ : ∃ X, X = up I1 41 1 0 := ⟨_, rfl⟩
    rw [← eX] at hT1
    have x0 : ∀ b, b ≠ 41 → (b < 43 ∨ 50 < b) → X b = I b := fun b q1 q2 => by rw [eX, up_na q1, fo b q2]
    have xI1 : ∀ b, 43 ≤ b → b ≤ 50 → X b = I1 b := fun b q1 q2 => by rw [eX, up_na (by omega)]
    obtain ⟨⟨r1, r2, r3⟩, ⟨r4, r5⟩, ⟨r6, r7⟩, ⟨r8, r9, r10⟩, r11⟩ := id ro
    obtain ⟨N, eN⟩ : ∃ N, hN h = N := ⟨_, rfl⟩
    rw [eN] at hN118
    obtain ⟨h2, I2, J2, a1, a2, a3, a4, a5, a6, a7, a8, a9⟩ := s_trimmed (d := d + 97) (J := J) (I := X) (h := g) (N := N) (m := mm) (c := cc) sg (by rw [gN, eN]) hN118 (by rw [xI1 44 (by omega) (by omega)]; exact r7) (by rw [xI1 44 (by omega) (by omega)]; exact e447) r9 hc.2
    have hX5 : TxS 9 X cc mm CL := by
      have e45 := xI1 45 (by omega) (by omega)
      have e46 := xI1 46 (by omega) (by omega)
      have e47 := xI1 47 (by omega) (by omega)
      have e48 := xI1 48 (by omega) (by omega)
      have e49 := xI1 49 (by omega) (by omega)
      have e50 := xI1 50 (by omega) (by omega)
      refine ⟨fun j hj => ?_, fun a q1 q2 => by rw [e49, e50]; exact tS.2 a q1 q2⟩
      obtain ⟨q1, q2, q3⟩ := tS.1 j hj
      refine ⟨by rw [e47]; exact q1, by rw [e48]; exact q2, fun q hq => ?_⟩
      have w := q3 q hq
      cases hx : (CL j).2.2 q with
      | none =>
        rw [hx] at w
        have w' : I1 49 (4 * j + q) = 0 ∧ I1 50 (4 * j + q) = 0 := w
        show X 49 (4 * j + q) = 0 ∧ X 50 (4 * j + q) = 0
        rw [e49, e50]
        exact w'
      | some gg =>
        rw [hx] at w
        have w' : ∃ f t z : Nat, I1 49 (4 * j + q) = f ∧ I1 50 (4 * j + q) = t ∧ t ≤ mm ∧ z ≤ 50 ∧ sem 9 (I1 45) (I1 46) f t z gg := w
        show ∃ f t z : Nat, X 49 (4 * j + q) = f ∧ X 50 (4 * j + q) = t ∧ t ≤ mm ∧ z ≤ 50 ∧ sem 9 (X 45) (X 46) f t z gg
        rw [e49, e50, e45, e46]
        exact w'
    have hXS : StOk X := by
      have := r11
      unfold StOk at *
      rw [xI1 45 (by omega) (by omega), xI1 46 (by omega) (by omega)]
      exact this
    have hTx : TxM h2 I2 N cc CL := trim_ok hXS a5 r9 hc.2 hX5 a6 a7 a8 a9
    have tN : hT h2 N = 19 := Tx_t a5.1
    obtain ⟨h3, eh3⟩ : ∃ h3, h3 = sR h2 (upR (hR h2) 15 t (some N)) := ⟨_, rfl⟩
    have h3T : hT h3 = hT h2 := by rw [eh3]; rfl
    have h3L : hL h3 = hL h2 := by rw [eh3]; rfl
    have h3N : hN h3 = hN h2 := by rw [eh3]; rfl
    have h3S : hS h3 = hS h2 := by rw [eh3]; rfl
    have h3R : ∀ b, b ≠ 15 → hR h3 b = hR h2 b := fun b z => by rw [eh3]; exact upR_na z
    have g15 : hR h2 15 = hR h 15 := by rw [(a2 15 (by omega)).2.2.1, gR 15 (by omega)]
    have h3R15 : ∀ j, hR h3 15 j = if j = t then some N else hR h 15 j := fun j => by
      rw [eh3]
      show (if 15 = 15 ∧ j = t then some N else hR h2 15 j) = _
      rw [g15]
      by_cases z : j = t
      · rw [if_pos ⟨rfl, z⟩, if_pos z]
      · rw [if_neg (fun u => z u.2), if_neg z]
    have low3 : ∀ b, b < 118 → hT h3 b = hT g b ∧ hL h3 b = hL g b ∧ (b ≠ 15 → hR h3 b = hR g b) := fun b hb => ⟨by rw [h3T]; exact (a2 b (by omega)).1, by rw [h3L]; exact (a2 b (by omega)).2.1, fun z => by rw [h3R b z]; exact (a2 b (by omega)).2.2.1⟩
    have s3 := ShT_15 sg low3
    have low : ∀ b, b < 118 → hT h3 b = hT h b ∧ hL h3 b = hL h b ∧ (b ≠ 43 → b ≠ 15 → hR h3 b = hR h b) := fun b hb => ⟨by rw [(low3 b hb).1, gT], by rw [(low3 b hb).2.1, gL], fun z1 z2 => by rw [(low3 b hb).2.2 z2, gR b z1]⟩
    have m3 : ShM h3 88 := ShM_tr m (fun b b1 b2 => ⟨(low b b2).1, (low b b2).2.1⟩) ((low 88 (by omega)).2.2 (by omega) (by omega))
    have a1' : rn (d + 99) 87 [iR (some 44)] (st g X J) = some (oR (some N), st h2 I2 J2) := a1
    have s2 : ShT h2 := ShT_tr sg fun b hb => ⟨(a2 b (by omega)).1, (a2 b (by omega)).2.1, (a2 b (by omega)).2.2.1⟩
    have i2o : ∀ b, b < N → I2 b = X b := fun b hb => (a2 b hb).2.2.2.1
    obtain ⟨Y, eY⟩ : ∃ Y, Y = up (up I2 4 13 ((t : Int) + 1)) 3 15 0 := ⟨_, rfl⟩
    have x413 : X 4 13 = (t : Int) := by rw [x0 4 (by omega) (by omega), e13, et]
    have hTT : rn (d + 100) 109 [iR (some 3)] (st h I J) = some (oI (t : Int), st h3 Y J2) := by
      rw [hT1, if_neg (by omega), ygR (aT_3 sg) (aR_3_0 sg), xB_s, ygIv (aT_4 sg) x413, ygR (aT_3 sg) (aR_3_0 sg), xB_s, ygR (aT_4 sg) (aR_4_12 sg), ygR (aT_3 sg) (aR_3_5 sg), xB_s, ygR (aT_43 sg) (aR_43_0 sg), xB_s, yck (aT_44 sg), a1', kR_o, xB_s, xsR_4 (len := 6) (aT_15 s2) tN (by omega) (by omega) (aL_15 s2) (by omega) (by omega), Int.toNat_natCast, ← eh3, ygR (aT_3 s3) (aR_3_0 s3), xB_s, ygIv (x := (t : Int)) (aT_4 s3) (by rw [i2o 4 (by omega)]; exact x413), xB_s, ypI (aT_4 s3) (by omega), wr_id (by omega) (by omega), yck (aT_3 s3), s_taken (d := d + 98) s3, kI_o, eY]
    have yo : ∀ b, b ≠ 3 → b ≠ 4 → b < N → Y b = X b := fun b q1 q2 q3 => by rw [eY, up_na q1, up_na q2, i2o b q3]
    have yI : ∀ b, b ≠ 3 → b ≠ 4 → b < N → b ≠ 41 → (b < 43 ∨ 50 < b) → Y b = I b := fun b q1 q2 q3 q4 q5 => by rw [yo b q1 q2 q3, x0 b q4 q5]
    obtain ⟨Kt, mv, I4, m1, m2, ⟨m4, m5, m6⟩, m7⟩ := s_readsAs (d := d + 61) (J := J2) (I := Y) (B := I 42) (n := n) (ord := 0) m3 hB (by omega) (Or.inl rfl) (by rw [yI 88 (by omega) (by omega) (by omega) (by omega) (by omega), en]) (fun i => by rw [yI 94 (by omega) (by omega) (by omega) (by omega) (by omega)]; exact ww i) (fun i _ => by rw [yI 95 (by omega) (by omega) (by omega) (by omega) (by omega)]; exact (t4 i).2)
    obtain ⟨m8, m9⟩ := m6 (cc, CL) ex
    have hKt : Kt ≤ n := m4.1.2
    have i490 : I4 90 = I 90 := by rw [m1.1 90 (by omega) (by omega) (by omega) (by omega), yI 90 (by omega) (by omega) (by omega) (by omega) (by omega)]
    have hlay := s_lays (d := d + 98) (J := J2) (I := I4) m3 (t := t) (c := Kt) (by omega) (by omega) m4.1.1
    obtain ⟨l1, l2, l3⟩ := layR_at (t := t) m4 (by omega) (by omega)
    obtain ⟨R4, eR4⟩ : ∃ R4, R4 = layR (up I4 90 (187 + t) (Kt : Int)) t Kt 0 := ⟨_, rfl⟩
    rw [← eR4] at hlay l1 l2 l3
    have r4o : ∀ b, b ≠ 90 → R4 b = I4 b := fun b hb => by
      rw [eR4]
      funext i
      show (if b = 90 then _ else (up I4 90 (187 + t) (Kt : Int)) b i) = I4 b i
      rw [if_neg hb, up_na hb]
    obtain ⟨Z, eZ⟩ : ∃ Z, Z = up (up R4 90 185 ((t : Int) + 1)) 88 0 0 := ⟨_, rfl⟩
    have r185 : R4 90 185 = (t : Int) := by rw [l3 185 (by omega) (by omega) (by omega), i490, et]
    have hM0 : rn (d + 100) 203 [iR (some 88)] (st h3 Y J2) = some (oI (t : Int), st h3 Z J2) := by
      rw [r_M_law, e_M_law, ygR (bT_88 m3) (bR_2 m3), xB_s, yaIv (i := 185) (j := 185) (x := (t : Int)) (bT_90 m3) (bL_90 m3) rfl (by omega) (by rw [yI 90 (by omega) (by omega) (by omega) (by omega) (by omega), et]), if_neg (by omega), yck (bT_88 m3), m2, kI_o, if_neg (by omega), ygR (bT_88 m3) (bR_2 m3), xB_s, yaIv (i := 185) (j := 185) (x := (t : Int)) (bT_90 m3) (bL_90 m3) rfl (by omega) (by rw [i490, et]), yck (bT_88 m3), hlay, kV_o, ygR (bT_88 m3) (bR_2 m3), xB_s, yaIv (i := 185) (j := 185) (x := (t : Int)) (bT_90 m3) (bL_90 m3) rfl (by omega) r185, xB_s, zSI (i := 185) (j := 185) (bT_90 m3) (by omega) (bL_90 m3) rfl (by omega), wr_id (x := (t : Int) + 1) (by omega) (by omega), ygR (bT_88 m3) (bR_2 m3), xB_s, yaIv (i := 185) (j := 185) (x := (t : Int) + 1) (bT_90 m3) (bL_90 m3) rfl (by omega) (up_eq _ _ _ _), wr_id (x := (t : Int) + 1 - 1) (by omega) (by omega), show (t : Int) + 1 - 1 = (t : Int) by omega, yck (bT_88 m3), s_good (d := d + 98) m3, kI_o, eZ]
    have zo : ∀ b, b ≠ 88 → b ≠ 90 → b ≠ 97 → b ≠ 98 → b ≠ 99 → Z b = Y b := fun b q1 q2 q3 q4 q5 => by rw [eZ, up_na q1, up_na q2, r4o b q2, m1.1 b q1 q3 q4 q5]
    have zI : ∀ b, b ≠ 3 → b ≠ 4 → b < N → b ≠ 41 → (b < 43 ∨ 50 < b) → b ≠ 88 → b ≠ 90 → b ≠ 97 → b ≠ 98 → b ≠ 99 → Z b = I b := fun b q1 q2 q3 q4 q5 p1 p2 p3 p4 p5 => by rw [zo b p1 p2 p3 p4 p5, yI b q1 q2 q3 q4 q5]
    have z88 : ∀ i, i ≠ 0 → Z 88 i = I4 88 i := fun i hi => by rw [eZ, up_ni hi, up_na (by omega), r4o 88 (by omega)]
    have z880 : Z 88 0 = 0 := by rw [eZ, up_eq]
    have i88 : ∀ i, (i = 6 ∨ i = 31 ∨ i = 47 ∨ i = 55) → Z 88 i = I 88 i := fun i hi => by rw [z88 i (by omega), m1.2 i (by omega) (by omega) (by omega) (by omega) (by omega) (by omega) (by omega) (by omega) (by omega), yI 88 (by omega) (by omega) (by omega) (by omega) (by omega)]
    have z90 : ∀ i, Z 90 i = if i = 185 then (t : Int) + 1 else R4 90 i := fun i => by rw [eZ, up_na (by omega), up_at]
    have z90o : ∀ i, i ≠ 185 → i ≠ 187 + t → (i < 194 + 400 * t ∨ 594 + 400 * t ≤ i) → (i < 2994 + 400 * t ∨ 3394 + 400 * t ≤ i) → Z 90 i = I 90 i := fun i q0 q1 q2 q3 => by rw [z90, if_neg q0, l3 i q1 q2 q3, i490]
    have zlo : ∀ i, i < 187 → i ≠ 185 → Z 90 i = I 90 i := fun i q1 q2 => z90o i q2 (by omega) (by omega) (by omega)
    have z185 : Z 90 185 = (t : Int) + 1 := by rw [z90, if_pos rfl]
    have g3 : ∀ i, Z 3 i = if i = 15 then 0 else I 3 i := fun i => by rw [zo 3 (by omega) (by omega) (by omega) (by omega) (by omega), eY, up_at, up_na (by omega), i2o 3 (by omega), x0 3 (by omega) (by omega)]
    have g4 : ∀ i, Z 4 i = if i = 13 then (t : Int) + 1 else I 4 i := fun i => by rw [zo 4 (by omega) (by omega) (by omega) (by omega) (by omega), eY, up_na (by omega), up_at, i2o 4 (by omega), x0 4 (by omega) (by omega)]
    obtain ⟨own', eo⟩ : ∃ own' : Nat → Nat, own' = fun b => if N ≤ b then N else own b := ⟨_, rfl⟩
    have ow1 : ∀ b, b < N → own' b = own b := fun b hb => by rw [eo]; exact if_neg (by omega)
    have ow2 : ∀ b, N ≤ b → own' b = N := fun b hb => by rw [eo]; exact if_pos hb
    have x : HX h h3 I Z own own' N := by
      refine ⟨by rw [h3N, a3, eN]; omega, fun b hb => ow1 b (by omega), fun b c1 c2 _ => ?_⟩
      rw [eN] at c2
      exact ⟨by rw [h3T, (a2 b c2).1, gT], by rw [h3L, (a2 b c2).2.1, gL], by rw [h3R b (by omega), (a2 b c2).2.2.1, gR b (by omega)], zI b (by omega) (by omega) c2 (by omega) (by omega) (by omega) (by omega) (by omega) (by omega) (by omega)⟩
    have ne : ∀ z len, Bk own (hN h) z len → 0 < len → z ≠ N := fun z len hz hl => by
      have := hz.2.1
      omega
    have smO : ∀ j y, hR h 15 j = some y → Sm h h3 I Z y (y + 6) := fun j y hy b b1 b2 => by
      have w := (hw j y hy).2
      exact x.sm w (ne y 7 w (by omega)) b b1 (by omega)
    have smN : TxM h3 Z N cc CL := hTx.tr fun b b1 b2 => ⟨by rw [h3T], by rw [h3L], h3R b (by omega), by rw [zo b (by omega) (by omega) (by omega) (by omega) (by omega), eY, up_na (by omega), up_na (by omega)]⟩
    have rl := r.told (K' := Z 90) (I' := Z) (h' := h3) kk (N := N) (cc := cc) (CL := CL) et (by omega) zlo z185 g4 (fun b b1 b2 => zI b (by omega) (by omega) (by omega) (by omega) (by omega) (by omega) (by omega) (by omega) (by omega) (by omega)) h3R15 hN118 smN (fun j y _ hy => smO j y hy)
    have nl : IvL h3 Z own' 4 (Z 90) := by
      refine ⟨⟨_, rl, kk.told et (by omega) zlo z185, fun j hj => ?_⟩, fun j y hy => ?_⟩
      · rw [z185] at hj
        show LwM (Z 90) j (if j = t then (cc, CL) else LW j).1 (if j = t then (cc, CL) else LW j).2
        by_cases z : j = t
        · rw [if_pos z, z]
          refine ⟨I 42, n, Kt, m4.ev hB (by omega), fun q hq => ?_, ?_, ex⟩
          · rw [z90, if_neg (by omega), z90, if_neg (by omega)]
            exact l1 q hq
          · rw [z90, if_neg (by omega), l2]
        · rw [if_neg z]
          exact (hA j (by omega)).cg (by omega) (z90o _ (by omega) (by omega) (by omega) (by omega)) fun q hq => ⟨z90o _ (by omega) (by omega) (by omega) (by omega), z90o _ (by omega) (by omega) (by omega) (by omega)⟩
      · have hy' : hR h3 15 j = some y := hy
        rw [h3R15] at hy'
        by_cases z : j = t
        · rw [if_pos z] at hy'
          have e := Option.some.inj hy'
          rw [← e, h3T, h3N, a3]
          exact ⟨tN, hN118, by omega, fun i hi => ow2 _ (by omega)⟩
        · rw [if_neg z] at hy'
          have w := hw j y hy'
          exact ⟨by rw [(smO j y hy' y (Nat.le_refl _) (by omega)).1]; exact w.1, x.bk w.2⟩
    refine ⟨t, h3, Y, J2, h3, Z, J2, hTT, hM0, ⟨⟨by rw [(low 0 (by omega)).1]; exact v.sc.1, by rw [(low 0 (by omega)).2.1]; exact v.sc.2.1, by rw [yI 0 (by omega) (by omega) (by omega) (by omega) (by omega)]; exact v.sc.2.2⟩, m3⟩, Inv.gen3 u1 u3 u6 u8 x ne s3 low (fun b hb => zI b (by omega) (by omega) (by omega) (by omega) (by omega) (by omega) (by omega) (by omega) (by omega) (by omega)) (i88 55 (by omega)) ?_ nl ⟨?_, ?_, ?_, ?_⟩ (u5.fr (zI _ (by omega) (by omega) (by omega) (by omega) (by omega) (by omega) (by omega) (by omega) (by omega) (by omega)) (zI _ (by omega) (by omega) (by omega) (by omega) (by omega) (by omega) (by omega) (by omega) (by omega) (by omega)) (zI _ (by omega) (by omega) (by omega) (by omega) (by omega) (by omega) (by omega) (by omega) (by omega) (by omega)) (zlo 183 (by omega) (by omega)) (i88 31 (by omega))) ?_⟩
    · obtain ⟨⟨q1, q2, q3⟩, q4, q5⟩ := u7
      unfold IvR
      rw [g3, g3, g3, z880, i88 6 (by omega), i88 47 (by omega), if_pos rfl, if_neg (by omega), if_neg (by omega), zI 87 (by omega) (by omega) (by omega) (by omega) (by omega) (by omega) (by omega) (by omega) (by omega) (by omega), zI 89 (by omega) (by omega) (by omega) (by omega) (by omega) (by omega) (by omega) (by omega) (by omega) (by omega)]
      exact ⟨⟨rfl, q2, q3⟩, q4, fun j hj => by have := q5 j hj; omega⟩
    · rw [zo 41 (by omega) (by omega) (by omega) (by omega) (by omega), yo 41 (by omega) (by omega) (by omega), eX, up_eq, z88 13 (by omega), m7]
      omega
    · rw [zI 42 (by omega) (by omega) (by omega) (by omega) (by omega) (by omega) (by omega) (by omega) (by omega) (by omega), zI 95 (by omega) (by omega) (by omega) (by omega) (by omega) (by omega) (by omega) (by omega) (by omega) (by omega)]
      exact t4
    · rw [zo 43 (by omega) (by omega) (by omega) (by omega) (by omega), yo 43 (by omega) (by omega) (by omega), xI1 43 (by omega) (by omega), z88 14 (by omega), m8]
      exact r4
    · unfold StOk at hXS ⊢
      rw [zo 45 (by omega) (by omega) (by omega) (by omega) (by omega), zo 46 (by omega) (by omega) (by omega) (by omega) (by omega), yo 45 (by omega) (by omega) (by omega), yo 46 (by omega) (by omega) (by omega)]
      exact hXS
    · obtain ⟨w1, w2, w3⟩ := u9
      refine ⟨by omega, by rw [h3N, a3]; omega, ?_⟩
      rw [h3N, a3, h3S, a4, gS, (low 83 (by omega)).2.2 (by omega) (by omega)]
      rw [eN] at w3
      rcases w3 with ⟨w4, w5, w6⟩ | ⟨w4, w5, w6⟩
      · exact Or.inl ⟨w4, by omega, by omega⟩
      · exact Or.inr ⟨w4, by omega, by omega⟩
end P98q
