/-! image, back (by program, wip/whole/gen98n.py) -/
/-- the cells grew; of those that some own, but a, none is other -/
def HX (h h' : IH) (I I' : Nat → Nat → Int) (own own' : Nat → Nat) (a : Nat) : Prop := hN h ≤ hN h' ∧ (∀ b, b < hN h → own' b = own b) ∧ ∀ b, 118 ≤ b → b < hN h → own b ≠ a → hT h' b = hT h b ∧ hL h' b = hL h b ∧ hR h' b = hR h b ∧ I' b = I b
theorem ShT_low {h h' : IH} (hs : ShT h) (low : ∀ b, b < 118 → hT h' b = hT h b ∧ hL h' b = hL h b ∧ (b ≠ 40 → hR h' b = hR h b)) : ShT h' := by
  obtain ⟨⟨g1, g2⟩, g3, g4, g5, g6, g7, ⟨g8, g9⟩, g10, g11, g12, g13, g14, g15, g16, g17, g18, ⟨g19, g20⟩, g21, g22⟩ := hs
  have q : ∀ b, b < 118 → b ≠ 40 → hT h' b = hT h b ∧ hL h' b = hL h b ∧ hR h' b = hR h b := fun b b1 b2 => ⟨(low b b1).1, (low b b1).2.1, (low b b1).2.2 b2⟩
  have q3 := (q 3 (by omega) (by omega)).2.2
  refine ⟨⟨by rw [(q 1 (by omega) (by omega)).1, g1], by rw [(q 1 (by omega) (by omega)).2.1, g2]⟩, by rw [(q 3 (by omega) (by omega)).1, g3], by rw [q3]; exact g4, La_tr g5 fun b b1 b2 => q b (by omega) (by omega), La_tr g6 fun b b1 b2 => q b (by omega) (by omega), La_tr g7 fun b b1 b2 => q b (by omega) (by omega), ⟨by rw [(low 40 (by omega)).1, g8], by rw [(low 40 (by omega)).2.1, g9]⟩, Tp_tr g10 fun b b1 b2 => q b (by omega) (by omega), Rd_tr g11 fun b b1 b2 => q b (by omega) (by omega), Ju_tr g12 fun b b1 b2 => q b (by omega) (by omega), Mo_tr g13 fun b b1 b2 => q b (by omega) (by omega), Rn_tr g14 fun b b1 b2 => q b (by omega) (by omega), Ps_tr g15 fun b b1 b2 => q b (by omega) (by omega), Ps_tr g16 fun b b1 b2 => q b (by omega) (by omega), Pa_tr g17 fun b b1 b2 => q b (by omega) (by omega), Wh_tr g18 fun b b1 b2 => q b (by omega) (by omega), ⟨by rw [(q 86 (by omega) (by omega)).1, g19], by rw [(q 86 (by omega) (by omega)).2.1, g20]⟩, by rw [(q 87 (by omega) (by omega)).1, g21], by rw [(q 87 (by omega) (by omega)).2.1, g22]⟩
section P98n
variable {d k L n : Nat} {I I' I1 I2 J : Nat → Nat → Int} {a b c : Nat} {h h' g : IH} {K : Nat → Int} {LW : Nat → Nat × (Nat → Cls)} {own own' : Nat → Nat} {xs : Nat → Int32}
theorem HX.bk (x : HX h h' I I' own own' a) {y len : Nat} (hb : Bk own (hN h) y len) : Bk own' (hN h') y len := ⟨hb.1, by have := x.1; have := hb.2.1; omega, fun i hi => by rw [x.2.1 (y + i) (by have := hb.2.1; omega)]; exact hb.2.2 i hi⟩
theorem HX.sm (x : HX h h' I I' own own' a) {y len : Nat} (hb : Bk own (hN h) y len) (ne : y ≠ a) : ∀ b, y ≤ b → b < y + len → hT h' b = hT h b ∧ hL h' b = hL h b ∧ hR h' b = hR h b ∧ I' b = I b := fun b b1 b2 => by
  have e := hb.2.2 (b - y) (by omega)
  rw [show y + (b - y) = b by omega] at e
  exact x.2.2 b (by have := hb.1; omega) (by have := hb.2.1; omega) (by rw [e]; exact ne)
theorem RL.cgK {K' : Nat → Int} (r : RL h I a K LW) (k : KOk K) (e : ∀ i, i < 5794 → K' i = K i) : RL h I a K' LW := by
  obtain ⟨r1, r2, ⟨r3, r4, r5⟩, ⟨r6, r7, r8⟩, ⟨r9, r10⟩, ⟨r11, r12, r13⟩, r14⟩ := r
  refine ⟨by rw [e 183 (by omega)]; exact r1, fun t q => ?_, ⟨fun s q => ?_, fun i q => ?_, fun x y hx hy => ?_⟩, ⟨?_, ?_, ?_⟩, ⟨?_, fun i q => ?_⟩, ⟨?_, ?_, fun j hj => ?_⟩, r14⟩
  · rw [e 183 (by omega), e t (by omega), atK_cg k.1 (fun i hi => e i (by omega)) (e 183 (by omega))]
    exact r2 t q
  · rw [e (7 + s) (by omega), e (113 + s) (by omega)]
    exact r3 s q
  · rw [e (14 + i) (by omega), e (120 + i) (by omega)]
    exact r4 i q
  · rw [e (63 + (7 * x + y)) (by omega)]
    exact r5 x y hx hy
  · rw [e 112 (by omega)]
    exact r6
  · rw [e 181 (by omega)]
    exact r7
  · rw [e 182 (by omega)]
    exact r8
  · rw [e 184 (by omega)]
    exact r9
  · rw [e (169 + 2 * i) (by omega), e (170 + 2 * i) (by omega)]
    exact r10 i q
  · rw [e 185 (by omega)]
    exact r11
  · rw [e 186 (by omega)]
    exact r12
  · rw [e 185 (by omega)] at hj
    exact r13 j hj
theorem KOk.cgK {K' : Nat → Int} (k : KOk K) (e : ∀ i, i < 5794 → K' i = K i) : KOk K' := by
  obtain ⟨k1, ⟨k2, k2b⟩, ⟨k3, k4, k5, k6⟩, k7, ⟨k10, k11⟩, k12⟩ := k
  refine ⟨by rw [e 183 (by omega)]; exact k1, ⟨fun u hu => ?_, fun s hs => ?_⟩, ⟨fun s hs => ?_, fun i hi => ?_, fun x y hx hy => ?_, fun x hx => ?_⟩, ?_, ⟨?_, fun i hi => ?_⟩, ?_⟩
  · rw [e 183 (by omega)] at hu ⊢
    rw [e u (by omega)]
    exact k2 u hu
  · rw [e 183 (by omega)] at hs
    obtain ⟨u, u1, u2⟩ := k2b s hs
    exact ⟨u, by rw [e 183 (by omega)]; exact u1, by rw [e u (by omega)]; exact u2⟩
  · rw [e (7 + s) (by omega), e (113 + s) (by omega)]
    exact k3 s hs
  · rw [e (14 + i) (by omega), e (63 + i) (by omega), e (120 + i) (by omega)]
    exact k4 i hi
  · rw [e (63 + (7 * x + y)) (by omega), e (63 + (7 * y + x)) (by omega)]
    exact k5 x y hx hy
  · rw [e (120 + 8 * x) (by omega)]
    exact k6 x hx
  · rw [e 112 (by omega), e 181 (by omega), e 182 (by omega)]
    exact k7
  · rw [e 184 (by omega)]
    exact k10
  · rw [e 184 (by omega)] at hi
    rw [e 183 (by omega), e (169 + 2 * i) (by omega), e (170 + 2 * i) (by omega)]
    exact k11 i hi
  · rw [e 185 (by omega), e 186 (by omega)]
    exact k12
theorem IvL.cgK {K' : Nat → Int} (v : IvL h I own a K) (e : ∀ i, i < 5794 → K' i = K i) : IvL h I own a K' := by
  obtain ⟨⟨LW, r, k, l⟩, w⟩ := v
  refine ⟨⟨LW, r.cgK k e, k.cgK e, fun j hj => ?_⟩, w⟩
  rw [e 185 (by omega)] at hj
  have h6 := k.2.2.2.2.2.1
  exact (l j hj).cg (by omega) (e _ (by omega)) fun q hq => ⟨e _ (by omega), e _ (by omega)⟩
theorem IvL.hx {K' : Nat → Int} (v : IvL h I own c K) (x : HX h h' I I' own own' a) (ne : ∀ y, hT h y = 19 → Bk own (hN h) y 7 → y ≠ a) (hI : ∀ b, c ≤ b → b ≤ c + 11 → I' b = I b) (hR1 : hR h' (c + 11) = hR h (c + 11)) (e : K' = K) : IvL h' I' own' c K' := by
  subst e
  obtain ⟨⟨LW, r, k, l⟩, w⟩ := v
  have sm : ∀ j y, hR h (c + 11) j = some y → Sm h h' I I' y (y + 6) := fun j y hy b b1 b2 => x.sm (w j y hy).2 (ne y (w j y hy).1 (w j y hy).2) b b1 (by omega)
  refine ⟨⟨LW, r.tr hI hR1 sm, k, l⟩, fun j y hy => ?_⟩
  rw [hR1] at hy
  exact ⟨by rw [(sm j y hy y (Nat.le_refl _) (by omega)).1]; exact (w j y hy).1, x.bk (w j y hy).2⟩
theorem IvI.hx {y : Nat} (v : IvI h I own y) (x : HX h h' I I' own own' a) (ne : ∀ z, hT h z = 19 → Bk own (hN h) z 7 → z ≠ a) (ne2 : ∀ z, hR h 40 y = some z → z ≠ a) (e40 : hR h' 40 y = hR h 40 y) (e92 : I' 92 y = I 92 y) (e91 : ∀ i, i < 5794 → imK I' y i = imK I y i) : IvI h' I' own' y := by
  rcases v with ⟨v1, v2⟩ | ⟨z, v1, v2, v3, v4, v5⟩
  · exact Or.inl ⟨by rw [e40]; exact v1, by rw [e92]; exact v2⟩
  · have sm := x.sm v4 (ne2 z v1)
    exact Or.inr ⟨z, by rw [e40]; exact v1, by rw [e92]; exact v2, La_tr v3 fun b b1 b2 => ⟨(sm b b1 b2).1, (sm b b1 b2).2.1, (sm b b1 b2).2.2.1⟩, x.bk v4, (v5.hx x ne (fun b b1 b2 => (sm b b1 (by omega)).2.2.2) (sm (z + 11) (by omega) (by omega)).2.2.1 rfl).cgK e91⟩
theorem IvW.hx (v : IvW h I own) (x : HX h h' I I' own own' a) (ne : ∀ z, (hT h z = 0 ∨ hT h z = 1) → Bk own (hN h) z 1 → z ≠ a) (e : hR h' 83 = hR h 83) (h83 : I' 83 = I 83) (h85 : I' 85 = I 85) : IvW h' I' own' := by
  rcases v with ⟨v1, v2⟩ | ⟨q, p, s, ⟨v1, v2, v3⟩, ⟨w1, w2, w3, w4⟩, ⟨t1, t2⟩, ⟨t3, t4⟩, ⟨t5, t6⟩, v6⟩
  · exact Or.inl ⟨by rw [e]; exact v1, by rw [h83, h85]; exact v2⟩
  · have sq := x.sm w1 (ne q (Or.inl t1) w1) q (Nat.le_refl _) (by omega)
    have sp := x.sm w2 (ne p (Or.inl t3) w2) p (Nat.le_refl _) (by omega)
    have ss := x.sm w3 (ne s (Or.inr t5) w3) s (Nat.le_refl _) (by omega)
    exact Or.inr ⟨q, p, s, ⟨by rw [e]; exact v1, by rw [e]; exact v2, by rw [e]; exact v3⟩, ⟨x.bk w1, x.bk w2, x.bk w3, w4⟩, ⟨by rw [sq.1]; exact t1, by rw [sq.2.1]; exact t2⟩, ⟨by rw [sp.1]; exact t3, by rw [sp.2.1]; exact t4⟩, ⟨by rw [ss.1]; exact t5, by rw [ss.2.1]; exact t6⟩, by rw [h83, h85, sq.2.2.2, sp.2.2.2]; exact v6⟩
/-- an image taken, both sides done -/
theorem Inv.img {y : Nat} (hy : y ≤ 1) (u1 : IvB L xs h I) (u2 : IvL h I own 4 (I 90)) (u3 : (IvI h I own 0 ∧ IvI h I own 1) ∧ ∀ x y, hR h 40 0 = some x → hR h 40 1 = some y → x ≠ y) (u4 : IvT I) (u5 : IvP I) (u6 : IvC I) (u7 : IvR I k) (u8 : IvW h I own) (x : HX h h' I I' own own' a) (ne19 : ∀ z, hT h z = 19 → Bk own (hN h) z 7 → z ≠ a) (ne01 : ∀ z, (hT h z = 0 ∨ hT h z = 1) → Bk own (hN h) z 1 → z ≠ a) (neI : ∀ w z, w ≤ 1 → w ≠ y → hR h 40 w = some z → z ≠ a) (low : ∀ b, b < 118 → hT h' b = hT h b ∧ hL h' b = hL h b ∧ (b ≠ 40 → hR h' b = hR h b)) (e40 : ∀ w, hR h' 40 w = if w = y then some a else hR h 40 w) (c : ∀ b, b < 118 → b ≠ 3 → b ≠ 88 → b ≠ 91 → b ≠ 92 → I' b = I b) (e3 : ∀ i, I' 3 i = if i = 15 then 0 else I 3 i) (e88 : ∀ i, I' 88 i = if i = 0 then 0 else I 88 i) (e92 : ∀ i, I' 92 i = if i = y then 1 else I 92 i) (e91 : ∀ w i, w ≤ 1 → i < 5794 → imK I' w i = if w = y then I 90 i else imK I w i) (sl : ShLand h' a) (bk : Bk own' (hN h') a 12) (hl : IvL h' I' own' a (I 90)) (hn : IvN h' (k + 1)) : Inv L xs (k + 1) h' I' := by
  have c4 : ∀ b, b < 118 → b ≠ 3 → b ≠ 88 → b ≠ 91 → b ≠ 92 → I' b = I b := c
  have i0 : ∀ w, w ≤ 1 → IvI h I own w → IvI h' I' own' w := fun w hw v => by
    by_cases z : w = y
    · refine Or.inr ⟨a, by rw [e40, if_pos z], by rw [e92, if_pos z], sl, bk, hl.cgK fun i hi => by rw [e91 w i hw hi, if_pos z]⟩
    · exact v.hx x ne19 (fun q hq => neI w q hw z hq) (by rw [e40, if_neg z]) (by rw [e92, if_neg z]) (fun i hi => by rw [e91 w i hw hi, if_neg z])
  refine ⟨own', ?_, u2.hx x ne19 (fun b b1 b2 => c b (by omega) (by omega) (by omega) (by omega) (by omega)) ((low 15 (by omega)).2.2 (by omega)) (c 90 (by omega) (by omega) (by omega) (by omega) (by omega)), ⟨⟨i0 0 (by omega) u3.1.1, i0 1 (by omega) u3.1.2⟩, fun p q hp hq => ?_⟩, u4.fr (c _ (by omega) (by omega) (by omega) (by omega) (by omega)) (c _ (by omega) (by omega) (by omega) (by omega) (by omega)) (c _ (by omega) (by omega) (by omega) (by omega) (by omega)) (c _ (by omega) (by omega) (by omega) (by omega) (by omega)) (c _ (by omega) (by omega) (by omega) (by omega) (by omega)) (c _ (by omega) (by omega) (by omega) (by omega) (by omega)) (by rw [e88, if_neg (by omega)]) (by rw [e88, if_neg (by omega)]), u5.fr (c _ (by omega) (by omega) (by omega) (by omega) (by omega)) (c _ (by omega) (by omega) (by omega) (by omega) (by omega)) (c _ (by omega) (by omega) (by omega) (by omega) (by omega)) (by rw [c 90 (by omega) (by omega) (by omega) (by omega) (by omega)]) (by rw [e88, if_neg (by omega)]), u6.fr (fun b b1 b2 => c b (by omega) (by omega) (by omega) (by omega) (by omega)) (c _ (by omega) (by omega) (by omega) (by omega) (by omega)) (by rw [e88, if_neg (by omega)]), ?_, u8.hx x ne01 ((low 83 (by omega)).2.2 (by omega)) (c _ (by omega) (by omega) (by omega) (by omega) (by omega)) (c _ (by omega) (by omega) (by omega) (by omega) (by omega)), hn⟩
  · obtain ⟨t1, t2, ⟨t3, t4, t5⟩, t6, t7⟩ := u1
    refine ⟨?_, ShM_tr t2 (fun b b1 b2 => ⟨(low b b2).1, (low b b2).2.1⟩) ((low 88 (by omega)).2.2 (by omega)), ⟨by rw [(low 0 (by omega)).1]; exact t3, by rw [(low 0 (by omega)).2.1]; exact t4, by rw [c 0 (by omega) (by omega) (by omega) (by omega) (by omega)]; exact t5⟩, by rw [c 1 (by omega) (by omega) (by omega) (by omega) (by omega)]; exact t6, by rw [c 94 (by omega) (by omega) (by omega) (by omega) (by omega)]; exact t7⟩
    exact ShT_low t1 low
  · rw [e40] at hp hq
    by_cases z : 0 = y
    · rw [if_pos z] at hp
      rw [if_neg (by omega)] at hq
      have := neI 1 q (by omega) (by omega) hq
      cases hp
      exact fun w => this w.symm
    · rw [if_neg z] at hp
      by_cases z1 : 1 = y
      · rw [if_pos z1] at hq
        have := neI 0 p (by omega) (by omega) hp
        cases hq
        exact this
      · rw [if_neg z1] at hq
        exact u3.2 p q hp hq
  · obtain ⟨⟨r1, r2, r3⟩, r4, r5⟩ := u7
    unfold IvR
    rw [c 87 (by omega) (by omega) (by omega) (by omega) (by omega), c 89 (by omega) (by omega) (by omega) (by omega) (by omega), e3, e3, e3, e88, e88, e88, if_pos rfl, if_pos rfl, if_neg (by omega), if_neg (by omega), if_neg (by omega), if_neg (by omega)]
    exact ⟨⟨rfl, r2, r3⟩, r4, fun j hj => by have := r5 j hj; omega⟩
end P98n
