/-! What is moved: swap, round, close, pass (by program, wip/whole/gen98b.py) -/
/-- the state, prepared to be kept -/
def ppI (I : Nat → Nat → Int) (kind : Int) : Nat → Nat → Int := prepI I 72 4 (I 72 1 * 72) kind
section P98b
variable {h : IH} {I I0 I1 I2 I' J : Nat → Nat → Int} {k L d n : Nat} {xs : Nat → Int32} {K K' : Nat → Int} {LW : Nat → Nat × (Nat → Cls)} {kind : Int}
theorem RwP.cg {n : Int} {P P' F F' : Nat → Int} (r : RwP n P F) (hP : ∀ i, i < 72 → P' i = P i) (hF : ∀ i, i < 114 → F' i = F i) (hn : n ≤ 7) : RwP n P' F' := by
  obtain ⟨⟨⟨m1, m1b⟩, m2, m3, m4, m5⟩, a1, a2, a3, a4, a5, a6, a7⟩ := r
  refine ⟨⟨⟨fun u hu => ?_, fun s hs => ?_⟩, fun s hs => ?_, fun i hi => ?_, fun x y hx hy => ?_, ?_⟩, fun t ht ht2 => ?_, fun s hs => ?_, fun x y hx hy => ?_, fun j hj => ?_, ⟨?_, ?_⟩, ?_, fun x hx => ?_⟩
  · rw [hF u (by omega)]
    exact m1 u hu
  · obtain ⟨u, u1, u2⟩ := m1b s hs
    exact ⟨u, u1, by rw [hF u (by omega)]; exact u2⟩
  · rw [hF _ (by omega)]
    exact m2 s hs
  · rw [hF (14 + i) (by omega), hF (63 + i) (by omega)]
    exact m3 i hi
  · rw [hF (63 + (7 * x + y)) (by omega), hF (63 + (7 * y + x)) (by omega)]
    exact m4 x y hx hy
  · rw [hF 112 (by omega)]
    exact m5
  · rw [hP t (by omega), hF t (by omega)]
    exact a1 t ht ht2
  · rw [hP (7 + s) (by omega), hF (7 + s) (by omega)]
    exact a2 s hs
  · rw [hP (14 + x) (by omega), hF (63 + (7 * x + y)) (by omega)]
    exact a3 x y hx hy
  · rw [hP (21 + j) (by omega), hF (14 + j) (by omega)]
    exact a4 j hj
  · rw [hP 70 (by omega), hF 112 (by omega)]
    exact a5.1
  · rw [hP 71 (by omega), hF 113 (by omega)]
    exact a5.2
  · rw [hF 113 (by omega)]
    exact a6
  · rw [hP (14 + x) (by omega)]
    exact a7 x hx
theorem RwP.new {P F : Nat → Int} (r : RL h I 4 K LW) (k : KOk K) (hP : (∀ t, t < 7 → P t = I 5 t) ∧ (∀ s, s < 7 → P (7 + s) = I 7 s) ∧ (∀ x, x < 7 → P (14 + x) = I 11 x) ∧ (∀ j, j < 49 → P (21 + j) = I 9 j) ∧ P 70 = I 12 0 ∧ P 71 = kind) (hF : ∀ j, j < 113 → F j = K j) (hk : F 113 = kind) (hk2 : 0 ≤ kind ∧ kind ≤ 3) : RwP (K 183) P F := by
  obtain ⟨p1, p2, p3, p4, p5, p6⟩ := hP
  obtain ⟨k1, ⟨k2, k2b⟩, ⟨k3, k4, k5, k6⟩, k7, k8⟩ := id k
  obtain ⟨r1, r2, ⟨r3, r4, r5⟩, r6, -, -, r14, r15, r16, r17⟩ := id r
  refine ⟨⟨⟨fun u hu => ?_, fun s hs => ?_⟩, fun s hs => ?_, fun i hi => ?_, fun x y hx hy => ?_, ?_⟩, fun t ht ht2 => ?_, fun s hs => ?_, fun x y hx hy => ?_, fun j hj => ?_, ⟨?_, ?_⟩, ?_, fun x hx => ?_⟩
  · rw [hF u (by omega)]
    exact k2 u hu
  · obtain ⟨u, u1, u2⟩ := k2b s hs
    exact ⟨u, u1, by rw [hF u (by omega)]; exact u2⟩
  · rw [hF _ (by omega)]
    exact (k3 s hs).1
  · rw [hF (14 + i) (by omega), hF (63 + i) (by omega)]
    exact ⟨(k4 i hi).1, (k4 i hi).2.1⟩
  · rw [hF (63 + (7 * x + y)) (by omega), hF (63 + (7 * y + x)) (by omega)]
    exact k5 x y hx hy
  · rw [hF 112 (by omega)]
    exact k7.1
  · rw [p1 t ht, hF t (by omega)]
    exact r.has k ht2
  · rw [p2 s hs, hF (7 + s) (by omega)]
    exact (r3 s hs).1
  · rw [p3 x hx, hF (63 + (7 * x + y)) (by omega)]
    exact r5 x y hx hy
  · rw [p4 j hj, hF (14 + j) (by omega)]
    exact (r4 j hj).1
  · rw [p5, hF 112 (by omega)]
    exact r6.1
  · rw [p6, hk]
  · rw [hk]
    exact hk2
  · rw [p3 x hx]
    exact r17 x
theorem ppI_o {b : Nat} (hb : b ≠ 73) : ppI I kind b = I b := by
  unfold ppI prepI
  rw [up_na hb, up_na hb, cpy_na hb, cpy_na hb, cpy_na hb, cpy_na hb]
theorem ppI_n {nx : Nat} (e : I 72 1 = (nx : Int)) {q : Nat} (hq : q < 72 * nx ∨ 72 * nx + 72 ≤ q) : ppI I kind 73 q = I 73 q := by
  unfold ppI prepI
  rw [e, show ((nx : Int) * 72).toNat = 72 * nx by omega, show ((nx : Int) * 72 + 7).toNat = 72 * nx + 7 by omega, show ((nx : Int) * 72 + 14).toNat = 72 * nx + 14 by omega, show ((nx : Int) * 72 + 21).toNat = 72 * nx + 21 by omega, show ((nx : Int) * 72 + 70).toNat = 72 * nx + 70 by omega, show ((nx : Int) * 72 + 71).toNat = 72 * nx + 71 by omega, up_ni (by omega), up_ni (by omega), cpy_of (by omega), cpy_of (by omega), cpy_of (by omega), cpy_of (by omega)]
theorem ppI_e {nx : Nat} (e : I 72 1 = (nx : Int)) : (∀ t, t < 7 → ppI I kind 73 (72 * nx + t) = I 5 t) ∧ (∀ s, s < 7 → ppI I kind 73 (72 * nx + (7 + s)) = I 7 s) ∧ (∀ x, x < 7 → ppI I kind 73 (72 * nx + (14 + x)) = I 11 x) ∧ (∀ j, j < 49 → ppI I kind 73 (72 * nx + (21 + j)) = I 9 j) ∧ ppI I kind 73 (72 * nx + 70) = I 12 0 ∧ ppI I kind 73 (72 * nx + 71) = kind := by
  unfold ppI prepI
  rw [e, show ((nx : Int) * 72).toNat = 72 * nx by omega, show ((nx : Int) * 72 + 7).toNat = 72 * nx + 7 by omega, show ((nx : Int) * 72 + 14).toNat = 72 * nx + 14 by omega, show ((nx : Int) * 72 + 21).toNat = 72 * nx + 21 by omega, show ((nx : Int) * 72 + 70).toNat = 72 * nx + 70 by omega, show ((nx : Int) * 72 + 71).toNat = 72 * nx + 71 by omega]
  refine ⟨fun t ht => ?_, fun s hs => ?_, fun x hx => ?_, fun j hj => ?_, ?_, ?_⟩
  · rw [up_ni (by omega), up_ni (by omega), cpy_of (by omega), cpy_of (by omega), cpy_of (by omega), cpy_at (by omega), show 0 + (72 * nx + t - 72 * nx) = t by omega]
  · rw [up_ni (by omega), up_ni (by omega), cpy_of (by omega), cpy_of (by omega), cpy_at (by omega), cpy_na (by omega), show 0 + (72 * nx + (7 + s) - (72 * nx + 7)) = s by omega]
  · rw [up_ni (by omega), up_ni (by omega), cpy_of (by omega), cpy_at (by omega), cpy_na (by omega), cpy_na (by omega), show 0 + (72 * nx + (14 + x) - (72 * nx + 14)) = x by omega]
  · rw [up_ni (by omega), up_ni (by omega), cpy_at (by omega), cpy_na (by omega), cpy_na (by omega), cpy_na (by omega), show 0 + (72 * nx + (21 + j) - (72 * nx + 21)) = j by omega]
  · rw [up_ni (by omega), up_at, if_pos rfl]
  · rw [up_at, if_pos rfl]
/-- what is prepared costs nothing that is kept -/
theorem IvP.pp (v : IvP I) (hn : I 90 183 ≤ 7) : IvP (ppI I kind) := by
  obtain ⟨kp, nx, a1, a2, a3, a4, a5, a6⟩ := v
  refine ⟨kp, nx, a1, a2, by rw [ppI_o (by omega)]; exact a3, by rw [ppI_o (by omega)]; exact a4, by rw [ppI_o (by omega)]; exact a5, fun i hi => ?_⟩
  rw [ppI_o (show 90 ≠ 73 by omega), ppI_o (show 101 ≠ 73 by omega)]
  refine (a6 i hi).cg (fun j hj => ?_) (fun j hj => rfl) hn
  show ppI I kind 73 (72 * ((nx + 17 - kp + i) % 17) + j) = I 73 (72 * ((nx + 17 - kp + i) % 17) + j)
  have : (nx + 17 - kp + i) % 17 ≠ nx := by omega
  exact ppI_n a4 (by omega)
theorem IvP.keep (v : IvP I) (r : RL h I 4 (I 90) LW) (k : KOk (I 90)) (hk : 0 ≤ kind ∧ kind ≤ 3) (hl : LfOk I2 I1 kind) (q90 : I1 90 = I 90) (q101 : I1 101 = I 101) (q31 : I1 88 31 = I 88 31) (c73 : I2 73 = ppI I kind 73) (c0 : I2 72 0 = if I 72 0 < 16 then I 72 0 + 1 else 16) (c1 : I2 72 1 = (I 72 1 + 1) % 17) (e183 : I2 90 183 = I 90 183) : IvP I2 := by
  obtain ⟨kp, nx, a1, a2, a3, a4, a5, a6⟩ := v
  obtain ⟨u, s, l1, l2, l3, l4, l5, l6, l7⟩ := hl
  have hu : u = kp := by rw [q31, a5] at l1; omega
  subst hu
  have hn := k.1.2
  unfold IvP
  rw [e183]
  rw [a3] at c0
  rw [a4] at c1
  have hkp : I2 72 0 = ((u - s + 1 : Nat) : Int) := by
    rw [c0]
    split at l3 <;> split <;> omega
  refine ⟨u - s + 1, (nx + 1) % 17, by split at l3 <;> omega, by omega, hkp, by rw [c1]; omega, l4, fun i hi => ?_⟩
  by_cases c : i < u - s
  · have hrow : ((nx + 1) % 17 + 17 - (u - s + 1) + i) % 17 = (nx + 17 - u + (i + s)) % 17 := by split at l3 <;> omega
    have hne : (nx + 17 - u + (i + s)) % 17 ≠ nx := by split at l3 <;> omega
    rw [hrow]
    refine (a6 (i + s) (by split at l3 <;> omega)).cg (fun j hj => ?_) (fun j hj => ?_) hn
    · show I2 73 (72 * ((nx + 17 - u + (i + s)) % 17) + j) = I 73 (72 * ((nx + 17 - u + (i + s)) % 17) + j)
      rw [c73]
      exact ppI_n a4 (by omega)
    · show I2 101 (114 * i + j) = I 101 (114 * (i + s) + j)
      rw [l7 i j c hj, q101]
  · have hi2 : i = u - s := by omega
    have hrow : ((nx + 1) % 17 + 17 - (u - s + 1) + i) % 17 = nx := by split at l3 <;> omega
    rw [hrow, hi2]
    have he := ppI_e (kind := kind) a4
    refine RwP.new (P := pR73 (I2 73) nx) r k ?_ (fun j hj => ?_) ?_ hk
    · show (∀ t, t < 7 → I2 73 (72 * nx + t) = I 5 t) ∧ (∀ s, s < 7 → I2 73 (72 * nx + (7 + s)) = I 7 s) ∧ (∀ x, x < 7 → I2 73 (72 * nx + (14 + x)) = I 11 x) ∧ (∀ j, j < 49 → I2 73 (72 * nx + (21 + j)) = I 9 j) ∧ I2 73 (72 * nx + 70) = I 12 0 ∧ I2 73 (72 * nx + 71) = kind
      rw [c73]
      exact he
    · show I2 101 (114 * (u - s) + j) = I 90 j
      rw [l5 j hj, q90]
    · show I2 101 (114 * (u - s) + 113) = kind
      exact l6
/-- nothing but a row that is not kept is other -/
theorem Inv.pp (v : Inv L xs k h I) (kind : Int) : Inv L xs k h (ppI I kind) := by
  have hn := v.kok.1.2
  obtain ⟨own, v1, v2, v3, v4, v5, v6, v7, v8, v9⟩ := v
  have c : ∀ b, b ≠ 73 → ppI I kind b = I b := fun b hb => ppI_o hb
  have ht : ∀ b, 118 ≤ b → ppI I kind b = I b := fun b hb => c b (by omega)
  have w7 : IvR (ppI I kind) k := by
    unfold IvR at *
    rw [c 3 (by omega), c 87 (by omega), c 88 (by omega), c 89 (by omega)]
    exact v7
  exact ⟨own, v1.fr (c _ (by omega)) (c _ (by omega)) (c _ (by omega)), v2.fr (fun b b1 b2 => c b (by omega)) ht (c _ (by omega)), ⟨⟨v3.1.1.fr (c _ (by omega)) (c _ (by omega)) ht, v3.1.2.fr (c _ (by omega)) (c _ (by omega)) ht⟩, v3.2⟩, v4.fr (c _ (by omega)) (c _ (by omega)) (c _ (by omega)) (c _ (by omega)) (c _ (by omega)) (c _ (by omega)) (by rw [c 88 (by omega)]) (by rw [c 88 (by omega)]), v5.pp hn, v6.fr (fun b b1 b2 => c b (by omega)) (c _ (by omega)) (by rw [c 88 (by omega)]), w7, v8.fr (c _ (by omega)) (c _ (by omega)) ht, v9⟩
theorem Inv.now' (v : Inv L xs k h I) : ∃ LW, NowOk h I (I 90) LW ∧ ∀ j x, hR h (4 + 11) j = some x → 118 ≤ x := by
  obtain ⟨LW, o⟩ := v.now
  exact ⟨LW, o, o.2.2.2.2⟩
theorem NowOk.pp2 (o : NowOk h I K LW) : NowOk h (ppI I kind) K LW := ⟨o.1, o.2.1.fr4 o.2.2.2.2 fun b hb => ppI_o (by omega), o.2.2⟩
theorem t_prep (v : Inv L xs k h I) : rn (d + 1) 49 [iR (some 72), iR (some 4), iI kind] (st h I J) = some (o0, st h (ppI I kind) J) := by
  obtain ⟨kp, nx, a1, a2, a3, a4, a5, a6⟩ := v.p
  exact s_prepare (ShT_4 v.t) (ShT_72 v.t) (by omega) (by rw [a4]; omega) kind
/-- kept, and taken -/
def kpI (I : Nat → Nat → Int) : Nat → Nat → Int := up (up (up I 72 1 ((I 72 1 + 1) % 17)) 72 0 (if I 72 0 < 16 then I 72 0 + 1 else 16)) 3 15 0
theorem kpI_o {b : Nat} (h3 : b ≠ 3) (h72 : b ≠ 72) : kpI I b = I b := by
  unfold kpI
  rw [up_na h3, up_na h72, up_na h72]
theorem s_moved (s : ShT h) (hn : 0 ≤ I 72 1 ∧ I 72 1 < 17) (hk : 0 ≤ I 72 0 ∧ I 72 0 ≤ 16) (x : Int) : rn (d + 2) 141 [iR (some 3), iI x] (st h I J) = some (oI x, st h (kpI I) J) := by
  rw [r_T_moved, e_T_moved, ygR (aT_3 s) (aR_3_9 s), xB_s, yck (aT_72 s), s_keepPrepared (d := d) (ShT_72 s) hn hk, kV_o, yck (aT_3 s), s_taken s, kI_o]
  rfl
theorem s_goodOr (m : ShM h 88) {x : Int} (hb : RfV x → 0 ≤ I 89 (-x).toNat ∧ I 89 (-x).toNat ≤ 1000) (hx : RfV x ∨ 0 ≤ x) : rn (d + 2) 229 [iR (some 88), iI x] (st h I J) = some (oI x, st h (if x < 0 then refM x I else up I 88 0 0) J) := by
  rw [r_M_goodOr, e_M_goodOr]
  rcases hx with r | hx
  · have : x < 0 := by unfold RfV at r; omega
    rw [if_pos this, if_pos this, yck (bT_88 m), s_refM m r (hb r), kI_o]
  · rw [if_neg (by omega), if_neg (by omega), yck (bT_88 m), s_good m, kI_o]
/-- both behind a move -/
theorem Inv.moved (v : Inv L xs k h I) (hk : k < 1000) (o : NowOk h I (I 90) LW) (hkd : 0 ≤ kind ∧ kind ≤ 3) (f1 : ∀ b, (b < 4 ∨ 15 < b) → (b < 57 ∨ 61 < b) → b ≠ 73 → I1 b = I b) (f73 : I1 73 = ppI I kind 73) (r : RL h I1 4 K' LW) (k' : KOk K') (hA : LwA K' LW) (e183 : K' 183 = I 90 183) (g : KtG I2 (kpI I1) K' kind) : Inv L xs (k + 1) h (up I2 88 0 0) := by
  obtain ⟨g1, g2, g3⟩ := g
  have c : ∀ b, (b < 4 ∨ 15 < b) → (b < 57 ∨ 61 < b) → b ≠ 73 → b ≠ 3 → b ≠ 72 → b ≠ 88 → b ≠ 90 → b ≠ 100 → b ≠ 101 → b ≠ 103 → (up I2 88 0 0) b = I b := fun b q1 q2 q3 q4 q5 q6 q7 q8 q9 q10 => by
    rw [up_na q6, g1.1 b q6 q7 q8 q9 q10, kpI_o q4 q5, f1 b q1 q2 q3]
  have c88 : ∀ i, i ≠ 22 → i ≠ 23 → i ≠ 24 → i ≠ 25 → i ≠ 31 → i ≠ 0 → (up I2 88 0 0) 88 i = I 88 i := fun i q1 q2 q3 q4 q5 q6 => by
    rw [up_ni q6, g1.2 i q1 q2 q3 q4 q5, kpI_o (by omega) (by omega), f1 88 (by omega) (by omega) (by omega)]
  have e3 : ∀ i, (up I2 88 0 0) 3 i = if i = 15 then 0 else I 3 i := fun i => by
    rw [up_na (by omega), g1.1 3 (by omega) (by omega) (by omega) (by omega) (by omega)]
    unfold kpI
    rw [up_at, up_na (by omega), up_na (by omega), f1 3 (by omega) (by omega) (by omega)]
  have e72 : ∀ i, (up I2 88 0 0) 72 i = if i = 0 then (if I 72 0 < 16 then I 72 0 + 1 else 16) else if i = 1 then (I 72 1 + 1) % 17 else I 72 i := fun i => by
    rw [up_na (by omega), g1.1 72 (by omega) (by omega) (by omega) (by omega) (by omega)]
    unfold kpI
    rw [up_na (by omega), up_at, up_at, f1 72 (by omega) (by omega) (by omega)]
  have e90 : (up I2 88 0 0) 90 = K' := by rw [up_na (by omega), g2]
  refine v.land hk (fun b hb => c b (by omega) (by omega) (by omega) (by omega) (by omega) (by omega) (by omega) (by omega) (by omega) (by omega)) (fun i hi => c88 i (by omega) (by omega) (by omega) (by omega) (by omega) (by omega)) ⟨by rw [e3, up_eq, if_pos rfl], by rw [e3, if_neg (by omega)], by rw [e3, if_neg (by omega)]⟩ ⟨LW, ?_, ?_, ?_⟩ ?_
  · rw [e90]
    exact r.fr4 o.2.2.2.2 fun b hb => by rw [up_na (by omega), g1.1 b (by omega) (by omega) (by omega) (by omega) (by omega), kpI_o (by omega) (by omega)]
  · rw [e90]
    exact k'
  · rw [e90]
    exact hA
  · have hg : LfOk (up I2 88 0 0) (kpI I1) kind := by
      obtain ⟨u, s, l1, l2, l3, l4, l5, l6, l7⟩ := g3
      have q101 : (up I2 88 0 0) 101 = I2 101 := up_na (by omega)
      exact ⟨u, s, l1, l2, l3, by rw [up_ni (by omega)]; exact l4, by rw [q101]; exact l5, by rw [q101]; exact l6, by rw [q101]; exact l7⟩
    have q : ∀ b, b = 88 ∨ b = 90 ∨ b = 101 → kpI I1 b = I b := fun b hb => by rw [kpI_o (by omega) (by omega), f1 b (by omega) (by omega) (by omega)]
    exact v.p.keep o.2.1 o.2.2.1 hkd hg (q 90 (by omega)) (q 101 (by omega)) (by rw [q 88 (by omega)]) (by rw [up_na (by omega), g1.1 73 (by omega) (by omega) (by omega) (by omega) (by omega), kpI_o (by omega) (by omega), f73]) (by rw [e72, if_pos rfl]) (by rw [e72, if_neg (by omega), if_pos rfl]) (by rw [e90]; exact e183)
theorem v3_sw {L : LwV} {x y : Int} (k : KOk K) : RfV (swapV K L x y) ∨ 0 ≤ swapV K L x y := by
  unfold swapV RfV
  by_cases c1 : x = y
  · rw [if_pos c1]; omega
  rw [if_neg c1]
  by_cases c2 : (0 ≤ x ∧ x < K 183) ∧ (0 ≤ y ∧ y < K 183)
  · rw [if_pos c2]
    by_cases c3 : canSw K L x y
    · rw [if_pos c3]
      have := k.2.1.1 y.toNat (by omega)
      omega
    · rw [if_neg c3]; omega
  · rw [if_neg c2]; omega
theorem v3_rd {L : LwV} {x y z : Int} (k : KOk K) : RfV (roundV K L x y z) ∨ 0 ≤ roundV K L x y z := by
  unfold roundV RfV
  by_cases c1 : x = y ∨ y = z ∨ x = z
  · rw [if_pos c1]; omega
  rw [if_neg c1]
  by_cases c2 : (0 ≤ x ∧ x < K 183) ∧ (0 ≤ y ∧ y < K 183) ∧ (0 ≤ z ∧ z < K 183)
  · rw [if_pos c2]
    by_cases c3 : canRd K L x y z
    · rw [if_pos c3]
      have := k.2.1.1 z.toNat (by omega)
      omega
    · rw [if_neg c3]; omega
  · rw [if_neg c2]; omega
theorem v3_cl {x y : Int} (k : KOk K) : RfV (closeV K x y) ∨ 0 ≤ closeV K x y := by
  have hn := k.1
  unfold closeV RfV
  by_cases c1 : x = y
  · rw [if_pos c1]; omega
  rw [if_neg c1]
  by_cases c2 : (0 ≤ x ∧ x < K 183) ∧ (0 ≤ y ∧ y < K 183)
  · rw [if_pos c2]
    by_cases c3 : milesK K x y = 0
    · rw [if_pos c3]; omega
    · rw [if_neg c3]
      have := (k.2.2.1.2.1 (7 * x + y).toNat (by omega)).2.1
      omega
  · rw [if_neg c2]; omega
theorem v3_ps {L : LwV} (k : KOk K) : RfV (passV K L) ∨ 0 ≤ passV K L := by
  have hn := k.1
  unfold passV RfV
  by_cases c1 : K 112 = 999
  · rw [if_pos c1]; omega
  · rw [if_neg c1]
    have : ∀ t : Nat, (t : Int) ≤ K 183 → 0 ≤ likedK K L t := by
      intro t
      induction t with
      | zero => intro _; exact Int.le_refl _
      | succ t ih =>
        intro ht
        have h1 := ih (by omega)
        have h3 := k.2.1.1 t (by omega)
        have h2 := likeK_in (L := L) k (t := (t : Int)) (s := K t) (by omega)
        show 0 ≤ likedK K L t + likeK K L (t : Int) (K t)
        omega
    exact Or.inr (this _ (by omega))
/-- a move of both: its answer V, what the class does, what the reference does -/
theorem Cal.move {yT yM : Nat} {args : List IV} (v : Inv L xs k h I) (hk : k < 1000) (o : NowOk h I (I 90) LW) {V : Int} (hV : RfV V ∨ 0 ≤ V) (hkd : 0 ≤ kind ∧ kind ≤ 3) (k' : 0 ≤ V → KOk K') (hA : 0 ≤ V → LwA K' LW) (e183 : 0 ≤ V → K' 183 = I 90 183)
    (hT : ∀ d, ∃ I1, (V < 0 → Fr I1 (ppI I kind) 57 61) ∧ (0 ≤ V → (∀ b, (b < 4 ∨ 15 < b) → (b < 57 ∨ 61 < b) → I1 b = ppI I kind b) ∧ RL h I1 4 K' LW) ∧ rn (d + 100) yT (iR (some 3) :: args) (st h I J) = (if V < 0 then xck (st h I1 J) 3 21 <| kI (rn (d + 99) 142 [iR (some 3), iI V] (st h I1 J)) fun x h => some (oI x, h) else xck (st h I1 J) 3 21 <| kI (rn (d + 99) 141 [iR (some 3), iI V] (st h I1 J)) fun x h => some (oI x, h)))
    (hM : ∀ d I1 J, I1 90 = I 90 → I1 88 31 = I 88 31 → ∃ I2, (V < 0 → AsFr I2 I1) ∧ (0 ≤ V → KtG I2 I1 K' kind) ∧ rn (d + 100) yM (iR (some 88) :: args) (st h I1 J) = kI (rn (d + 99) 229 [iR (some 88), iI V] (st h I2 J)) fun x h => some (oI x, h)) : Cal L xs k h I J yT yM args := by
  have s := v.t
  have m := v.m
  by_cases c : V < 0
  · have rv : RfV V := by
      rcases hV with q | q
      · exact q
      · omega
    have vp := v.pp kind
    refine Cal.r vp hk V rv (fun d => ?_) fun d I1 J1 t => ?_
    · obtain ⟨I1, a1, -, a3⟩ := hT d
      refine ⟨I1, J, (a1 c).tq (by omega) (by omega), ?_⟩
      rw [a3, if_pos c, yck (aT_3 s), s_refT (d := d + 98) s rv (by rw [a1 c 87 (by omega)]; exact (vp.b87 rv).1), kI_o]
    · have e90 : refT V I1 90 = I 90 := by rw [refT_n (by omega) (by omega), t 90 (by omega) (by omega) (by omega) (by omega), ppI_o (by omega)]
      have e88 : refT V I1 88 = I 88 := by rw [refT_n (by omega) (by omega), t 88 (by omega) (by omega) (by omega) (by omega), ppI_o (by omega)]
      have e89 : refT V I1 89 = I 89 := by rw [refT_n (by omega) (by omega), t 89 (by omega) (by omega) (by omega) (by omega), ppI_o (by omega)]
      obtain ⟨I2, a1, -, a3⟩ := hM d (refT V I1) J1 e90 (by rw [e88])
      have a1' := a1 c
      refine ⟨I2, J1, a1'.mq, ?_⟩
      rw [a3, s_goodOr (d := d + 97) m (fun rv => by rw [a1'.1 89 (by omega) (by omega), e89]; exact (v.b87 rv).2) (Or.inl rv), kI_o, if_pos c]
  · have hV2 : 0 ≤ V := by omega
    refine Cal.of v fun d => ?_
    obtain ⟨I1, -, a2, a3⟩ := hT d
    obtain ⟨f1, r1⟩ := a2 hV2
    have q72 : I1 72 = I 72 := by rw [f1 72 (by omega) (by omega), ppI_o (by omega)]
    obtain ⟨kp, nx, b1, b2, b3, b4, b5, b6⟩ := v.p
    rw [if_neg c, yck (aT_3 s), s_moved (d := d + 97) s (by rw [q72, b4]; omega) (by rw [q72, b3]; omega) V, kI_o] at a3
    have q90 : kpI I1 90 = I 90 := by rw [kpI_o (by omega) (by omega), f1 90 (by omega) (by omega), ppI_o (by omega)]
    have q88 : kpI I1 88 = I 88 := by rw [kpI_o (by omega) (by omega), f1 88 (by omega) (by omega), ppI_o (by omega)]
    obtain ⟨I2, -, g2, g3⟩ := hM d (kpI I1) J q90 (by rw [q88])
    rw [s_goodOr (d := d + 97) m (fun rv => by unfold RfV at rv; omega) (Or.inr hV2), kI_o, if_neg c] at g3
    refine ⟨V, kpI I1, J, up I2 88 0 0, J, a3, g3, ?_, v.moved hk o hkd (fun b q1 q2 q3 => by rw [f1 b q1 q2, ppI_o q3]) (f1 73 (by omega) (by omega)) r1 (k' hV2) (hA hV2) (e183 hV2) (g2 hV2)⟩
    rw [kpI_o (by omega) (by omega), f1 0 (by omega) (by omega), ppI_o (by omega)]
end P98b
