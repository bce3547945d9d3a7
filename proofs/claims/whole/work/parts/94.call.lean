/-! A call of both; what is refused (by program, wip/whole/gen94.py) -/
def Cal (L : Nat) (xs : Nat → Int32) (k : Nat) (h : IH) (I J : Nat → Nat → Int) (yT yM : Nat) (args : List IV) : Prop := ∀ d, ∃ (v : Int) (h1 : IH) (I1 J1 : Nat → Nat → Int) (h2 : IH) (I2 J2 : Nat → Nat → Int), rn (d + 100) yT (iR (some 3) :: args) (st h I J) = some (oI v, st h1 I1 J1) ∧ rn (d + 100) yM (iR (some 88) :: args) (st h1 I1 J1) = some (oI v, st h2 I2 J2) ∧ (Sc0 L xs h1 I1 ∧ ShM h1 88) ∧ Inv L xs (k + 1) h2 I2
def RfV (x : Int) : Prop := x = -1 ∨ x = -2 ∨ x = -3 ∨ x = -5 ∨ x = -6
def plc (x : Int) : Nat := if x < -3 then (-2 - x).toNat else (-1 - x).toNat
def refT (x : Int) (I : Nat → Nat → Int) : Nat → Nat → Int := up (up I 3 15 x) 87 (plc x) (I 87 (plc x) + 1)
def refM (x : Int) (I : Nat → Nat → Int) : Nat → Nat → Int := up (up I 88 0 x) 89 (-x).toNat (I 89 (-x).toNat + 1)
theorem RfV.p {x : Int} (r : RfV x) : plc x < 5 ∧ ((plc x : Nat) : Int) = (if x < -3 then -2 - x else -1 - x) := by
  unfold RfV at r
  unfold plc
  rcases r with rfl | rfl | rfl | rfl | rfl <;> decide
section P94
variable {h : IH} {I I0 I1 I2 I' J : Nat → Nat → Int} {k L d yT yM : Nat} {xs : Nat → Int32} {x : Int} {args : List IV}
theorem Inv.t (v : Inv L xs k h I) : ShT h := by obtain ⟨own, v1, v2⟩ := v; exact v1.1
theorem Inv.m (v : Inv L xs k h I) : ShM h 88 := by obtain ⟨own, v1, v2⟩ := v; exact v1.2.1
theorem Inv.sc (v : Inv L xs k h I) : Sc0 L xs h I := by obtain ⟨own, v1, v2⟩ := v; exact v1.2.2.1
theorem Inv.kle (v : Inv L xs k h I) : k ≤ 1000 := by obtain ⟨own, v1, v2, v3, v4, v5, v6, v7, v8, v9⟩ := v; exact v9.1
theorem Inv.r (v : Inv L xs k h I) : IvR I k := by obtain ⟨own, v1, v2, v3, v4, v5, v6, v7, v8, v9⟩ := v; exact v7
theorem Inv.tp (v : Inv L xs k h I) : IvT I := by obtain ⟨own, v1, v2, v3, v4, v5, v6, v7, v8, v9⟩ := v; exact v4
theorem Inv.p (v : Inv L xs k h I) : IvP I := by obtain ⟨own, v1, v2, v3, v4, v5, v6, v7, v8, v9⟩ := v; exact v5
theorem Inv.c (v : Inv L xs k h I) : IvC I := by obtain ⟨own, v1, v2, v3, v4, v5, v6, v7, v8, v9⟩ := v; exact v6
theorem Inv.now (v : Inv L xs k h I) : ∃ LW, NowOk h I (I 90) LW := by
  obtain ⟨own, v1, ⟨⟨LW, r, q, l⟩, w⟩, v3⟩ := v
  exact ⟨LW, v1.1, r, q, l, fun j x hx => (w j x hx).2.1⟩
theorem Inv.kok (v : Inv L xs k h I) : KOk (I 90) := by
  obtain ⟨LW, o⟩ := v.now
  exact o.2.2.1
theorem Inv.b87 (v : Inv L xs k h I) (r : RfV x) : (0 ≤ I 87 (plc x) ∧ I 87 (plc x) ≤ 1000) ∧ 0 ≤ I 89 (-x).toNat ∧ I 89 (-x).toNat ≤ 1000 := by
  obtain ⟨-, ⟨e0, e1, e2, e3, e4⟩, b⟩ := v.r
  have hk := v.kle
  have b0 := b 0 (by omega)
  have b1 := b 1 (by omega)
  have b2 := b 2 (by omega)
  have b3 := b 3 (by omega)
  have b4 := b 4 (by omega)
  unfold RfV at r
  rcases r with rfl | rfl | rfl | rfl | rfl
  · show (0 ≤ I 87 0 ∧ I 87 0 ≤ 1000) ∧ 0 ≤ I 89 1 ∧ I 89 1 ≤ 1000
    omega
  · show (0 ≤ I 87 1 ∧ I 87 1 ≤ 1000) ∧ 0 ≤ I 89 2 ∧ I 89 2 ≤ 1000
    omega
  · show (0 ≤ I 87 2 ∧ I 87 2 ≤ 1000) ∧ 0 ≤ I 89 3 ∧ I 89 3 ≤ 1000
    omega
  · show (0 ≤ I 87 3 ∧ I 87 3 ≤ 1000) ∧ 0 ≤ I 89 5 ∧ I 89 5 ≤ 1000
    omega
  · show (0 ≤ I 87 4 ∧ I 87 4 ≤ 1000) ∧ 0 ≤ I 89 6 ∧ I 89 6 ≤ 1000
    omega
theorem s_refT (s : ShT h) (r : RfV x) (hb : 0 ≤ I 87 (plc x) ∧ I 87 (plc x) ≤ 1000) : rn (d + 1) 142 [iR (some 3), iI x] (st h I J) = some (oI x, st h (refT x I) J) := by
  obtain ⟨p1, p2⟩ := r.p
  have hx : -6 ≤ x ∧ x ≤ -1 := by unfold RfV at r; omega
  have e87 : (up I 3 15 x) 87 (plc x) = I 87 (plc x) := by rw [up_na (by omega)]
  rw [r_T_refused, e_T_refused, ypI (aT_3 s) (by omega)]
  by_cases c : x < -3
  · rw [if_pos c] at p2
    rw [if_pos c, wr_id (x := -2 - x) (by omega) (by omega), if_neg (by omega), ygR (aT_3 s) (aR_3_14 s), xB_s, yle (show hT h 87 < 6 by rw [aT_87 s]; decide) (aL_87 s) (by omega), if_pos (by omega), ygR (aT_3 s) (aR_3_14 s), xB_s, yaIv (i := plc x) (x := I 87 (plc x)) (aT_87 s) (aL_87 s) (by omega) (by omega) e87, xB_s, zSI (i := plc x) (aT_87 s) (by omega) (aL_87 s) (by omega) (by omega), wr_id (x := I 87 (plc x) + 1) (by omega) (by omega)]
    rfl
  · rw [if_neg c] at p2
    rw [if_neg c, wr_id (x := -1 - x) (by omega) (by omega), if_neg (by omega), ygR (aT_3 s) (aR_3_14 s), xB_s, yle (show hT h 87 < 6 by rw [aT_87 s]; decide) (aL_87 s) (by omega), if_pos (by omega), ygR (aT_3 s) (aR_3_14 s), xB_s, yaIv (i := plc x) (x := I 87 (plc x)) (aT_87 s) (aL_87 s) (by omega) (by omega) e87, xB_s, zSI (i := plc x) (aT_87 s) (by omega) (aL_87 s) (by omega) (by omega), wr_id (x := I 87 (plc x) + 1) (by omega) (by omega)]
    rfl
theorem s_taken (s : ShT h) (y : Int) : rn (d + 1) 140 [iR (some 3), iI y] (st h I J) = some (oI y, st h (up I 3 15 0) J) := by
  rw [r_T_taken, e_T_taken, ypI (aT_3 s) (by omega)]
theorem s_refM (s : ShM h 88) (r : RfV x) (hb : 0 ≤ I 89 (-x).toNat ∧ I 89 (-x).toNat ≤ 1000) : rn (d + 1) 150 [iR (some 88), iI x] (st h I J) = some (oI x, st h (refM x I) J) :=
  s_refuses s (by unfold RfV at r; omega) ⟨by show (-2147483648 : Int) ≤ I 89 (-x).toNat; omega, by show I 89 (-x).toNat < 2147483647; omega⟩
theorem Inv.rfs (v : Inv L xs k h I) (hk : k < 1000) (r : RfV x) (t : TnQ I1 I) (m : MnQ I2 (refT x I1)) : Inv L xs (k + 1) h (refM x I2) := by
  obtain ⟨own, v1, v2, v3, v4, v5, v6, v7, v8, v9⟩ := v
  have c : ∀ b, (b = 0 ∨ b = 1 ∨ (4 ≤ b ∧ b ≤ 15) ∨ (28 ≤ b ∧ b ≤ 50) ∨ b = 72 ∨ b = 73 ∨ b = 83 ∨ b = 85 ∨ b = 90 ∨ b = 91 ∨ b = 92 ∨ b = 94 ∨ b = 95 ∨ b = 101 ∨ 117 ≤ b) → refM x I2 b = I b := fun b hb => by
    unfold refM
    rw [up_na (by omega), up_na (by omega), m.1 b (by omega)]
    unfold refT
    rw [up_na (by omega), up_na (by omega), t b (by omega) (by omega) (by omega) (by omega)]
  have e : ∀ i, (i = 6 ∨ i = 13 ∨ i = 14 ∨ i = 31 ∨ i = 47 ∨ i = 55) → refM x I2 88 i = I 88 i := fun i hi => by
    unfold refM
    rw [up_na (by omega), up_ni (by omega), m.2 i (by omega)]
    unfold refT
    rw [up_na (by omega), up_na (by omega), t 88 (by omega) (by omega) (by omega) (by omega)]
  have e0 : refM x I2 88 0 = x := by
    unfold refM
    rw [up_na (by omega), up_eq]
  have e3 : ∀ i, refM x I2 3 i = if i = 15 then x else I 3 i := fun i => by
    unfold refM
    rw [up_na (by omega), up_na (by omega), m.1 3 (by omega)]
    unfold refT
    rw [up_na (by omega), up_at, t 3 (by omega) (by omega) (by omega) (by omega)]
  have e87 : ∀ i, refM x I2 87 i = if i = plc x then I 87 (plc x) + 1 else I 87 i := fun i => by
    unfold refM
    rw [up_na (by omega), up_na (by omega), m.1 87 (by omega)]
    unfold refT
    rw [up_at, up_na (by omega), t 87 (by omega) (by omega) (by omega) (by omega)]
  have e89 : ∀ i, refM x I2 89 i = if i = (-x).toNat then I 89 (-x).toNat + 1 else I 89 i := fun i => by
    unfold refM
    rw [up_at, up_na (by omega), m.1 89 (by omega)]
    unfold refT
    rw [up_na (by omega), up_na (by omega), t 89 (by omega) (by omega) (by omega) (by omega)]
  have ht : ∀ b, 118 ≤ b → refM x I2 b = I b := fun b hb => c b (by omega)
  have w7 : IvR (refM x I2) (k + 1) := by
    obtain ⟨⟨q1, q2, q3⟩, ⟨p0, p1, p2, p3, p4⟩, b⟩ := v7
    refine ⟨⟨by rw [e3, e0, if_pos rfl], by rw [e3, e 6 (by omega), if_neg (by omega)]; exact q2, by rw [e3, e 47 (by omega), if_neg (by omega)]; exact q3⟩, ?_, fun j hj => ?_⟩
    · rw [e87, e87, e87, e87, e87, e89, e89, e89, e89, e89]
      unfold RfV at r
      rcases r with rfl | rfl | rfl | rfl | rfl
      · have z : plc (-1) = 0 := rfl
        rw [z, p0, p1, p2, p3, p4]
        exact ⟨rfl, rfl, rfl, rfl, rfl⟩
      · have z : plc (-2) = 1 := rfl
        rw [z, p0, p1, p2, p3, p4]
        exact ⟨rfl, rfl, rfl, rfl, rfl⟩
      · have z : plc (-3) = 2 := rfl
        rw [z, p0, p1, p2, p3, p4]
        exact ⟨rfl, rfl, rfl, rfl, rfl⟩
      · have z : plc (-5) = 3 := rfl
        rw [z, p0, p1, p2, p3, p4]
        exact ⟨rfl, rfl, rfl, rfl, rfl⟩
      · have z : plc (-6) = 4 := rfl
        rw [z, p0, p1, p2, p3, p4]
        exact ⟨rfl, rfl, rfl, rfl, rfl⟩
    · rw [e87]
      have b1 := b j hj
      have b2 := b (plc x) r.p.1
      split <;> omega
  exact ⟨own, v1.fr (c _ (by omega)) (c _ (by omega)) (c _ (by omega)), v2.fr (fun b b1 b2 => c b (by omega)) ht (c _ (by omega)), ⟨⟨v3.1.1.fr (c _ (by omega)) (c _ (by omega)) ht, v3.1.2.fr (c _ (by omega)) (c _ (by omega)) ht⟩, v3.2⟩, v4.fr (c _ (by omega)) (c _ (by omega)) (c _ (by omega)) (c _ (by omega)) (c _ (by omega)) (c _ (by omega)) (e 13 (by omega)) (e 14 (by omega)), v5.fr (c _ (by omega)) (c _ (by omega)) (c _ (by omega)) (by rw [c 90 (by omega)]) (e 31 (by omega)), v6.fr (fun b b1 b2 => c b (by omega)) (c _ (by omega)) (e 55 (by omega)), w7, v8.fr (c _ (by omega)) (c _ (by omega)) ht, v9.s hk⟩
theorem TnQ.sc (t : TnQ I1 I) (s : Sc0 L xs h I) : Sc0 L xs h I1 := ⟨s.1, s.2.1, (t 0 (by omega) (by omega) (by omega) (by omega)).trans s.2.2⟩
/-- a call that leaves all as it was -/
theorem Cal.q (v : Inv L xs k h I) (hk : k < 1000) (x : Int) (hT : ∀ d, ∃ I1 J1, TnQ I1 I ∧ rn (d + 100) yT (iR (some 3) :: args) (st h I J) = some (oI x, st h I1 J1)) (hM : ∀ d I1 J1, TnQ I1 I → ∃ I2 J2, MnQ I2 I1 ∧ rn (d + 100) yM (iR (some 88) :: args) (st h I1 J1) = some (oI x, st h I2 J2)) : Cal L xs k h I J yT yM args := by
  intro d
  obtain ⟨I1, J1, t1, t2⟩ := hT d
  obtain ⟨I2, J2, m1, m2⟩ := hM d I1 J1 t1
  exact ⟨x, h, I1, J1, h, I2, J2, t2, m2, ⟨t1.sc v.sc, v.m⟩, v.qt hk (m1.qt.tr t1.qt)⟩
/-- a refused call -/
theorem Cal.r (v : Inv L xs k h I0) (hk : k < 1000) (x : Int) (r : RfV x) (hT : ∀ d, ∃ I1 J1, TnQ I1 I0 ∧ rn (d + 100) yT (iR (some 3) :: args) (st h I J) = some (oI x, st h (refT x I1) J1)) (hM : ∀ d I1 J1, TnQ I1 I0 → ∃ I2 J2, MnQ I2 (refT x I1) ∧ rn (d + 100) yM (iR (some 88) :: args) (st h (refT x I1) J1) = some (oI x, st h (refM x I2) J2)) : Cal L xs k h I J yT yM args := by
  intro d
  obtain ⟨I1, J1, t1, t2⟩ := hT d
  obtain ⟨I2, J2, m1, m2⟩ := hM d I1 J1 t1
  refine ⟨x, h, refT x I1, J1, h, refM x I2, J2, t2, m2, ⟨?_, v.m⟩, v.rfs hk r t1 m1⟩
  have q := t1.sc v.sc
  refine ⟨q.1, q.2.1, ?_⟩
  unfold refT
  rw [up_na (by omega), up_na (by omega)]
  exact q.2.2
/-- the shape is the same -/
theorem Cal.of (v : Inv L xs k h I) (hyp : ∀ d, ∃ (x : Int) (I1 J1 I2 J2 : Nat → Nat → Int), rn (d + 100) yT (iR (some 3) :: args) (st h I J) = some (oI x, st h I1 J1) ∧ rn (d + 100) yM (iR (some 88) :: args) (st h I1 J1) = some (oI x, st h I2 J2) ∧ I1 0 = I 0 ∧ Inv L xs (k + 1) h I2) : Cal L xs k h I J yT yM args := by
  intro d
  obtain ⟨x, I1, J1, I2, J2, a1, a2, a3, a4⟩ := hyp d
  exact ⟨x, h, I1, J1, h, I2, J2, a1, a2, ⟨⟨v.sc.1, v.sc.2.1, a3.trans v.sc.2.2⟩, v.m⟩, a4⟩
theorem refT_n {b : Nat} (h3 : b ≠ 3) (h87 : b ≠ 87) : refT x I b = I b := by
  unfold refT
  rw [up_na h87, up_na h3]
theorem C_sidings (v : Inv L xs k h I) (hk : k < 1000) : Cal L xs k h I J 108 176 [] := by
  refine Cal.q v hk (I 3 16) (fun d => ⟨I, J, TnQ.rf I, ?_⟩) fun d I1 J1 t => ⟨I1, J1, MnQ.rf I1, ?_⟩
  · rw [r_T_sidings, e_T_sidings, ygI (aT_3 v.t)]
  · rw [r_M_sidings, e_M_sidings, ygI (bT_88 v.m), t 88 (by omega) (by omega) (by omega) (by omega), v.r.1.2.1]
theorem C_fault (v : Inv L xs k h I) (hk : k < 1000) : Cal L xs k h I J 111 204 [] := by
  refine Cal.q v hk (I 43 1) (fun d => ⟨I, J, TnQ.rf I, ?_⟩) fun d I1 J1 t => ⟨I1, J1, MnQ.rf I1, ?_⟩
  · rw [r_T_fault, e_T_fault, ygR (aT_3 v.t) (aR_3_5 v.t), xB_s, ygI (aT_43 v.t)]
  · rw [r_M_fault, e_M_fault, ygI (bT_88 v.m), t 88 (by omega) (by omega) (by omega) (by omega), v.tp.2.2.1]
theorem C_stopped (v : Inv L xs k h I) (hk : k < 1000) : Cal L xs k h I J 112 278 [] := by
  refine Cal.q v hk (I 3 17) (fun d => ⟨I, J, TnQ.rf I, ?_⟩) fun d I1 J1 t => ⟨I1, J1, MnQ.rf I1, ?_⟩
  · rw [r_T_stopped, e_T_stopped, ygI (aT_3 v.t)]
  · rw [r_M_stopped, e_M_stopped, ygI (bT_88 v.m), t 88 (by omega) (by omega) (by omega) (by omega), v.r.1.2.2]
theorem C_status (v : Inv L xs k h I) (hk : k < 1000) : Cal L xs k h I J 139 290 [] := by
  refine Cal.q v hk (I 3 15) (fun d => ⟨I, J, TnQ.rf I, ?_⟩) fun d I1 J1 t => ⟨I1, J1, MnQ.rf I1, ?_⟩
  · rw [r_T_status, e_T_status, ygI (aT_3 v.t)]
  · rw [r_M_status, e_M_status, ygI (bT_88 v.m), t 88 (by omega) (by omega) (by omega) (by omega), v.r.1.1]
end P94
