/-! The tape: end, feed (by program, wip/whole/gen98a.py) -/
theorem and255 (w : Int32) : (w &&& 255).toInt = w.toInt % 256 := by
  have h1 : (w &&& 255).toBitVec.toNat = w.toBitVec.toNat % 256 := by
    show (w.toBitVec &&& 255#32).toNat = _
    rw [BitVec.toNat_and]
    exact Nat.and_two_pow_sub_one_eq_mod _ 8
  have h2 : (w &&& 255).toInt = ((w &&& 255).toBitVec.toNat : Int) := by
    show (w &&& 255).toBitVec.toInt = _
    rw [BitVec.toInt_eq_toNat_of_lt]
    rw [h1]
    omega
  have h3 : w.toInt = w.toBitVec.toInt := rfl
  rw [h2, h1, h3, BitVec.toInt_eq_toNat_cond]
  split <;> omega
theorem byw (w : Int32) : w.toInt8.toInt32.toInt = Int.bmod w.toInt 256 := by
  rw [Int8.toInt_toInt32, Int32.toInt_toInt8]
theorem n8_bm (x : Int) : n8 x = Int.bmod (Int32.ofInt x).toInt 256 := by
  rw [← byw]
  rfl
theorem ofI_i (w : Int32) : Int32.ofInt w.toInt = w := Int32.ofInt_toInt w
/-- what the class keeps of a byte, what the reference keeps -/
theorem byte_sb (v q : Int) : (0 ≤ iand (ishr v q) 255 ∧ iand (ishr v q) 255 ≤ 255) ∧ n8 (by8 (ishr v q)) = sb (iand (ishr v q) 255) := by
  have e1 : iand (ishr v q) 255 = ishr v q % 256 := by
    unfold iand ishr
    rw [ofI_i]
    exact and255 _
  have e2 : by8 (ishr v q) = Int.bmod (ishr v q) 256 := by
    unfold by8 ishr
    rw [ofI_i]
    exact byw _
  have e3 : n8 (by8 (ishr v q)) = Int.bmod (ishr v q) 256 := by
    rw [n8_bm]
    have : by8 (ishr v q) = ((Int32.ofInt (ishr v q)).toInt8.toInt32).toInt := rfl
    rw [this, ofI_i, ← this, e2]
    unfold Int.bmod
    dsimp only
    omega
  rw [e3, e1]
  unfold sb Int.bmod
  dsimp only
  omega
section P98a
variable {h : IH} {I I0 I1 I2 I' J : Nat → Nat → Int} {k L d n : Nat} {xs : Nat → Int32} {K : Nat → Int} {LW : Nat → Nat × (Nat → Cls)}
theorem Inv.tape (v : Inv L xs k h I) (hk : k < 1000) (c : ∀ b, (b = 0 ∨ b = 1 ∨ b = 3 ∨ (4 ≤ b ∧ b ≤ 15) ∨ (28 ≤ b ∧ b ≤ 40) ∨ b = 72 ∨ b = 73 ∨ b = 83 ∨ b = 85 ∨ b = 87 ∨ b = 89 ∨ b = 90 ∨ b = 91 ∨ b = 92 ∨ b = 94 ∨ b = 101 ∨ 117 ≤ b) → I' b = I b) (e : ∀ i, (i = 0 ∨ i = 6 ∨ i = 31 ∨ i = 47 ∨ i = 55) → I' 88 i = I 88 i) (ht : IvT I') : Inv L xs (k + 1) h I' := by
  obtain ⟨own, v1, v2, v3, v4, v5, v6, v7, v8, v9⟩ := v
  have hb : ∀ b, 118 ≤ b → I' b = I b := fun b hb => c b (by omega)
  exact ⟨own, v1.fr (c _ (by omega)) (c _ (by omega)) (c _ (by omega)), v2.fr (fun b b1 b2 => c b (by omega)) hb (c _ (by omega)), ⟨⟨v3.1.1.fr (c _ (by omega)) (c _ (by omega)) hb, v3.1.2.fr (c _ (by omega)) (c _ (by omega)) hb⟩, v3.2⟩, ht, v5.fr (c _ (by omega)) (c _ (by omega)) (c _ (by omega)) (by rw [c 90 (by omega)]) (e 31 (by omega)), v6.fr (fun b b1 b2 => c b (by omega)) (c _ (by omega)) (e 55 (by omega)), v7.fr (c _ (by omega)) (c _ (by omega)) (c _ (by omega)) (e 0 (by omega)) (e 6 (by omega)) (e 47 (by omega)), v8.fr (c _ (by omega)) (c _ (by omega)) hb, v9.s hk⟩
theorem C_end (v : Inv L xs k h I) (hk : k < 1000) (x : Int) : Cal L xs k h I J 106 178 [iI x] := by
  have s := v.t
  have m := v.m
  obtain ⟨⟨t1, t2, t3⟩, t4, t5, t6⟩ := v.tp
  by_cases c1 : 0 ≤ x ∧ x ≤ I 88 13
  case neg =>
    refine Cal.q v hk (-1) (fun d => ⟨I, J, TnQ.rf I, ?_⟩) fun d I1 J1 t => ⟨I1, J1, MnQ.rf I1, ?_⟩
    · rw [r_T_end, e_T_end]
      by_cases q : x < 0
      · rw [if_pos q]
      · rw [if_neg q, ygR (aT_3 s) (aR_3_4 s), xB_s, ygIv (aT_41 s) t1, if_neg (by omega)]
    · rw [r_M_end, e_M_end, ygIv (x := I 88 13) (bT_88 m) (by rw [t 88 (by omega) (by omega) (by omega) (by omega)]), s_lies (d := d + 98), kI_o, if_neg c1, if_pos rfl]
  refine Cal.of v fun d => ?_
  have hT : rn (d + 100) 106 [iR (some 3), iI x] (st h I J) = some (oI x, st h (up I 41 1 x) J) := by
    rw [r_T_end, e_T_end, if_neg (by omega), ygR (aT_3 s) (aR_3_4 s), xB_s, ygIv (aT_41 s) t1, if_pos c1.2, ygR (aT_3 s) (aR_3_4 s), xB_s, ypI (aT_41 s) (by omega)]
  have hM : rn (d + 100) 178 [iR (some 88), iI x] (st h (up I 41 1 x) J) = some (oI x, st h (up (up I 41 1 x) 88 13 x) J) := by
    rw [r_M_end, e_M_end, ygIv (x := I 88 13) (bT_88 m) (by rw [up_na (by omega)]), s_lies (d := d + 98), kI_o, if_pos c1, if_neg (by omega), ypI (bT_88 m) (by omega)]
  refine ⟨x, _, J, _, J, hT, hM, up_na (by omega), v.tape hk (fun b hb => by rw [up_na (by omega), up_na (by omega)]) (fun i hi => by rw [up_ni (by omega), up_na (by omega)]) ?_⟩
  have e41 : (up (up I 41 1 x) 88 13 x) 41 1 = x := by rw [up_na (by omega), up_eq]
  have e13 : (up (up I 41 1 x) 88 13 x) 88 13 = x := up_eq _ _ _ _
  have e14 : (up (up I 41 1 x) 88 13 x) 88 14 = I 88 14 := by rw [up_ni (by omega), up_na (by omega)]
  have eo : ∀ b, b ≠ 41 → b ≠ 88 → (up (up I 41 1 x) 88 13 x) b = I b := fun b q1 q2 => by rw [up_na q2, up_na q1]
  refine ⟨by rw [e41, e13]; omega, by rw [eo 42 (by omega) (by omega), eo 95 (by omega) (by omega)]; exact t4, by rw [eo 43 (by omega) (by omega), e14]; exact t5, ?_⟩
  unfold StOk at *
  rw [eo 45 (by omega) (by omega), eo 46 (by omega) (by omega)]
  exact t6
/-- the byte i of the numbers A -/
def bt (A : Nat → Int) (i : Nat) : Int := iand (ishr (A (i / 4)) (24 - 8 * ((i % 4 : Nat) : Int))) 255
theorem s_add4 (s : ShT h) {A : Nat → Int} {j p : Nat} (hp : p + 4 ≤ 400) (e : I 41 1 = (p : Int)) : ∃ I', (∀ b, b ≠ 41 → b ≠ 42 → I' b = I b) ∧ I' 41 1 = ((p + 4 : Nat) : Int) ∧ (∀ i, I' 42 i = if p ≤ i ∧ i < p + 4 then bt A (4 * j + (i - p)) else I 42 i) ∧ rn (d + 1) 81 [iR (some 41), iI (A j)] (st h I J) = some (o0, st h I' J) := by
  have h41 := aT_41 s
  have h42 := aT_42 s
  have l42 := aL_42 s
  have r41 := aR_41_0 s
  have step : ∀ (X : Nat → Nat → Int) (q : Nat) (sh : Int) (n : Nat), q < 400 → 0 ≤ sh → sh ≤ 24 → X 41 1 = (q : Int) → lp d 81 (n + 1) 3 [some (iR (some 41)), some (iI (A j)), some (iI sh)] [] (st h X J) = lp d 81 n 3 [some (iR (some 41)), some (iI (A j)), some (iI (sh + -8))] [] (st h (up (up X 42 q (iand (ishr (A j) sh) 255)) 41 1 ((q + 1 : Nat) : Int)) J) := by
    intro X q sh n hq s0 s1 eX
    rw [e_Tp_addFour_3, if_neg (by omega), ygIv h41 eX, if_pos (by omega), ygR h41 r41, ygIv h41 eX, xB_s, zSI (i := q) h42 (by omega) l42 rfl hq, ygIv (x := (q : Int)) h41 (by rw [up_na (by omega)]; exact eX), ypI h41 (by omega), wr_id (x := sh + -8) (by omega) (by omega), wr_id (x := (q : Int) + 1) (by omega) (by omega), show (q : Int) + 1 = ((q + 1 : Nat) : Int) by omega]
  obtain ⟨X1, e1⟩ : ∃ X, X = up (up I 42 p (iand (ishr (A j) 24) 255)) 41 1 ((p + 1 : Nat) : Int) := ⟨_, rfl⟩
  obtain ⟨X2, e2⟩ : ∃ X, X = up (up X1 42 (p + 1) (iand (ishr (A j) 16) 255)) 41 1 ((p + 1 + 1 : Nat) : Int) := ⟨_, rfl⟩
  obtain ⟨X3, e3⟩ : ∃ X, X = up (up X2 42 (p + 1 + 1) (iand (ishr (A j) 8) 255)) 41 1 ((p + 1 + 1 + 1 : Nat) : Int) := ⟨_, rfl⟩
  obtain ⟨X4, e4⟩ : ∃ X, X = up (up X3 42 (p + 1 + 1 + 1) (iand (ishr (A j) 0) 255)) 41 1 ((p + 1 + 1 + 1 + 1 : Nat) : Int) := ⟨_, rfl⟩
  have s1 := step I p 24 999998 (by omega) (by omega) (by omega) e
  rw [← e1, show (24 : Int) + -8 = 16 from rfl] at s1
  have s2 := step X1 (p + 1) 16 999997 (by omega) (by omega) (by omega) (by rw [e1, up_eq])
  rw [← e2, show (16 : Int) + -8 = 8 from rfl] at s2
  have s3 := step X2 (p + 1 + 1) 8 999996 (by omega) (by omega) (by omega) (by rw [e2, up_eq])
  rw [← e3, show (8 : Int) + -8 = 0 from rfl] at s3
  have s4 := step X3 (p + 1 + 1 + 1) 0 999995 (by omega) (by omega) (by omega) (by rw [e3, up_eq])
  rw [← e4, show (0 : Int) + -8 = -8 from rfl] at s4
  refine ⟨X4, fun b q1 q2 => ?_, ?_, fun i => ?_, ?_⟩
  · rw [e4, up_na q1, up_na q2, e3, up_na q1, up_na q2, e2, up_na q1, up_na q2, e1, up_na q1, up_na q2]
  · rw [e4, up_eq]
  · rw [e4, up_na (by omega), up_at, e3, up_na (by omega), up_at, e2, up_na (by omega), up_at, e1, up_na (by omega), up_at]
    by_cases c : p ≤ i ∧ i < p + 4
    · rw [if_pos c]
      have : i = p ∨ i = p + 1 ∨ i = p + 1 + 1 ∨ i = p + 1 + 1 + 1 := by omega
      have key : ∀ q, q < 4 → bt A (4 * j + q) = iand (ishr (A j) (24 - 8 * (q : Int))) 255 := fun q hq => by
        unfold bt
        rw [show (4 * j + q) / 4 = j by omega, show (4 * j + q) % 4 = q by omega]
      rcases this with rfl | rfl | rfl | rfl
      · rw [if_neg (by omega), if_neg (by omega), if_neg (by omega), if_pos rfl, Nat.sub_self, key 0 (by omega)]
        rfl
      · rw [if_neg (by omega), if_neg (by omega), if_pos rfl, show p + 1 - p = 1 by omega, key 1 (by omega)]
        rfl
      · rw [if_neg (by omega), if_pos rfl, show p + 1 + 1 - p = 2 by omega, key 2 (by omega)]
        rfl
      · rw [if_pos rfl, show p + 1 + 1 + 1 - p = 3 by omega, key 3 (by omega)]
        rfl
    · rw [if_neg c, if_neg (by omega), if_neg (by omega), if_neg (by omega), if_neg (by omega)]
  · have s1' : lp d 81 999999 3 [some (iR (some 41)), some (iI (A j)), some (iI 24)] [] (st h I J) = _ := s1
    have s2' : lp d 81 999998 3 [some (iR (some 41)), some (iI (A j)), some (iI 16)] [] (st h X1 J) = _ := s2
    have s3' : lp d 81 999997 3 [some (iR (some 41)), some (iI (A j)), some (iI 8)] [] (st h X2 J) = _ := s3
    have s4' : lp d 81 999996 3 [some (iR (some 41)), some (iI (A j)), some (iI 0)] [] (st h X3 J) = _ := s4
    have s5 : lp d 81 (999994 + 1) 3 [some (iR (some 41)), some (iI (A j)), some (iI (-8))] [] (st h X4 J) = some (o0, st h X4 J) := by rw [e_Tp_addFour_3, if_pos (by omega)]
    have s5' : lp d 81 999995 3 [some (iR (some 41)), some (iI (A j)), some (iI (-8))] [] (st h X4 J) = _ := s5
    rw [r_Tp_addFour, e_Tp_addFour, s1', s2', s3', s4', s5']
def a5 (a b c e f : Int) (i : Nat) : Int := match i with
  | 0 => a
  | 1 => b
  | 2 => c
  | 3 => e
  | _ => f
theorem l_feed (m : ShM h 88) {A : Nat → Int} {p : Nat} (hp : p + 20 ≤ 400) : ∀ (r q f : Nat) (I : Nat → Nat → Int), q + r = 20 → I 88 13 = (p : Int) → (∀ i, i < 5 → I 96 i = A i) → ∃ I', (∀ b, b ≠ 88 → b ≠ 95 → I' b = I b) ∧ (∀ i, I' 88 i = if i = 13 then ((p + 20 : Nat) : Int) else I 88 i) ∧ (∀ i, I' 95 i = if p + q ≤ i ∧ i < p + 20 then sb (bt A (i - p)) else I 95 i) ∧ lp d 177 (f + r + 1) 55 [some (iR (some 88)), none, none, none, none, none, some (iI (q : Int))] [] (st h I J) = some (oI ((p + 20 : Nat) : Int), st h I' J) := by
  intro r
  induction r with
  | zero =>
    intro q f I hq e13 e96
    refine ⟨up I 88 13 ((p + 20 : Nat) : Int), fun b q1 q2 => up_na q1, fun i => up_at _ _ _ _ _, fun i => ?_, ?_⟩
    · rw [if_neg (by omega), up_na (by omega)]
    · rw [Nat.add_zero, e_M_feed_55, if_neg (by omega), ygIv (bT_88 m) e13, ypI (bT_88 m) (by omega), wr_id (by omega) (by omega), show (p : Int) + 20 = ((p + 20 : Nat) : Int) by omega, ygIv (x := ((p + 20 : Nat) : Int)) (bT_88 m) (up_eq _ _ _ _)]
  | succ r ih =>
    intro q f I hq e13 e96
    have hb := byte_sb (A (q / 4)) (24 - 8 * ((q % 4 : Nat) : Int))
    obtain ⟨I', a1, a2, a3, a4⟩ := ih (q + 1) f (up I 95 (p + q) (n8 (by8 (ishr (A (q / 4)) (24 - 8 * ((q % 4 : Nat) : Int)))))) (by omega) (by rw [up_na (by omega)]; exact e13) (fun i hi => by rw [up_na (by omega)]; exact e96 i hi)
    refine ⟨I', fun b q1 q2 => by rw [a1 b q1 q2, up_na q2], fun i => by rw [a2, up_na (by omega)], fun i => ?_, ?_⟩
    · rw [a3, up_at]
      by_cases c : i = p + q
      · rw [if_neg (by omega), if_pos c, if_pos (by omega), hb.2, c, show p + q - p = q by omega]
        rfl
      · rw [if_neg c]
        by_cases c2 : p + (q + 1) ≤ i ∧ i < p + 20
        · rw [if_pos c2, if_pos (by omega)]
        · rw [if_neg c2, if_neg (by omega)]
    · rw [show f + (r + 1) + 1 = (f + r + 1) + 1 by omega, e_M_feed_55, if_pos (by omega), ygR (bT_88 m) (bR_11 m), ygIv (bT_88 m) e13, ygR (bT_88 m) (bR_12 m), xdI_ok (by omega), Int.tdiv_eq_ediv_of_nonneg (by omega), xB_s, yaIv (i := q / 4) (x := A (q / 4)) (bT_96 m) (bL_96 m) (by rw [wr_id (by omega) (by omega)]; omega) (by omega) (e96 _ (by omega)), xmI_ok (by omega), Int.tmod_eq_emod_of_nonneg (by omega), xB_s, wr_id (x := (q : Int) % 4) (by omega) (by omega), wr_id (x := 8 * ((q : Int) % 4)) (by omega) (by omega), wr_id (x := 24 - 8 * ((q : Int) % 4)) (by omega) (by omega), wr_id (x := (p : Int) + (q : Int)) (by omega) (by omega), zSB2 (i := p + q) (bT_95 m) (by omega) (bL_95 m) (by omega) (by omega), wr_id (x := (q : Int) + 1) (by omega) (by omega), show (q : Int) % 4 = ((q % 4 : Nat) : Int) by omega, show (q : Int) + 1 = ((q + 1 : Nat) : Int) by omega]
      exact a4
theorem C_feed (v : Inv L xs k h I) (hk : k < 1000) (a b c e f : Int) : Cal L xs k h I J 105 177 [iI a, iI b, iI c, iI e, iI f] := by
  have s := v.t
  have m := v.m
  obtain ⟨⟨t1, t2, t3⟩, t4, t5, t6⟩ := v.tp
  by_cases c1 : I 88 13 + 20 ≤ 400
  case neg =>
    refine Cal.q v hk (-1) (fun d => ⟨I, J, TnQ.rf I, ?_⟩) fun d I1 J1 t => ⟨I1, J1, MnQ.rf I1, ?_⟩
    · rw [r_T_feed, e_T_feed, ygR (aT_3 s) (aR_3_4 s), xB_s, yck (aT_41 s), s_hasRoom (d := d + 98) (p := 41) s.2.2.2.2.2.2.2.1 (by rw [t1]; omega), kI_o, t1, if_neg c1, if_pos rfl]
    · rw [r_M_feed, e_M_feed, ygIv (x := I 88 13) (bT_88 m) (by rw [t 88 (by omega) (by omega) (by omega) (by omega)]), wr_id (by omega) (by omega), if_neg c1]
  obtain ⟨p, ep⟩ : ∃ p : Nat, I 88 13 = (p : Int) := ⟨(I 88 13).toNat, by omega⟩
  rw [ep] at t1 c1
  refine Cal.of v fun d => ?_
  obtain ⟨I1, a1, a2, a3, a4⟩ := s_add4 (d := d + 98) (J := J) s (A := a5 a b c e f) (j := 0) (p := p) (by omega) t1
  obtain ⟨I2, b1, b2, b3, b4⟩ := s_add4 (d := d + 98) (J := J) s (A := a5 a b c e f) (j := 1) (p := p + 4) (by omega) a2
  obtain ⟨I3, c1', c2, c3, c4⟩ := s_add4 (d := d + 98) (J := J) s (A := a5 a b c e f) (j := 2) (p := p + 4 + 4) (by omega) b2
  obtain ⟨I4, d1, d2, d3, d4⟩ := s_add4 (d := d + 98) (J := J) s (A := a5 a b c e f) (j := 3) (p := p + 4 + 4 + 4) (by omega) c2
  obtain ⟨I5, e1, e2, e3, e4⟩ := s_add4 (d := d + 98) (J := J) s (A := a5 a b c e f) (j := 4) (p := p + 4 + 4 + 4 + 4) (by omega) d2
  have a4' : rn (d + 99) 81 [iR (some 41), iI a] (st h I J) = some (o0, st h I1 J) := a4
  have b4' : rn (d + 99) 81 [iR (some 41), iI b] (st h I1 J) = some (o0, st h I2 J) := b4
  have c4' : rn (d + 99) 81 [iR (some 41), iI c] (st h I2 J) = some (o0, st h I3 J) := c4
  have d4' : rn (d + 99) 81 [iR (some 41), iI e] (st h I3 J) = some (o0, st h I4 J) := d4
  have e4' : rn (d + 99) 81 [iR (some 41), iI f] (st h I4 J) = some (o0, st h I5 J) := e4
  have hT : rn (d + 100) 105 [iR (some 3), iI a, iI b, iI c, iI e, iI f] (st h I J) = some (oI ((p + 20 : Nat) : Int), st h I5 J) := by
    rw [r_T_feed, e_T_feed, ygR (aT_3 s) (aR_3_4 s), xB_s, yck (aT_41 s), s_hasRoom (d := d + 98) (p := 41) s.2.2.2.2.2.2.2.1 (by rw [t1]; omega), kI_o, t1, if_pos c1, if_neg (by omega), ygR (aT_3 s) (aR_3_4 s), xB_s, yck (aT_41 s), a4', kV_o, ygR (aT_3 s) (aR_3_4 s), xB_s, yck (aT_41 s), b4', kV_o, ygR (aT_3 s) (aR_3_4 s), xB_s, yck (aT_41 s), c4', kV_o, ygR (aT_3 s) (aR_3_4 s), xB_s, yck (aT_41 s), d4', kV_o, ygR (aT_3 s) (aR_3_4 s), xB_s, yck (aT_41 s), e4', kV_o, ygR (aT_3 s) (aR_3_4 s), xB_s, ygIv (aT_41 s) e2]
  have f1 : ∀ q, q ≠ 41 → q ≠ 42 → I5 q = I q := fun q q1 q2 => by rw [e1 q q1 q2, d1 q q1 q2, c1' q q1 q2, b1 q q1 q2, a1 q q1 q2]
  have f42 : ∀ i, I5 42 i = if p ≤ i ∧ i < p + 20 then bt (a5 a b c e f) (i - p) else I 42 i := fun i => by
    rw [e3, d3, c3, b3, a3]
    by_cases q1 : p + 4 + 4 + 4 + 4 ≤ i ∧ i < p + 4 + 4 + 4 + 4 + 4
    · rw [if_pos q1, if_pos (by omega)]
      congr 1
      omega
    rw [if_neg q1]
    by_cases q2 : p + 4 + 4 + 4 ≤ i ∧ i < p + 4 + 4 + 4 + 4
    · rw [if_pos q2, if_pos (by omega)]
      congr 1
      omega
    rw [if_neg q2]
    by_cases q3 : p + 4 + 4 ≤ i ∧ i < p + 4 + 4 + 4
    · rw [if_pos q3, if_pos (by omega)]
      congr 1
      omega
    rw [if_neg q3]
    by_cases q4 : p + 4 ≤ i ∧ i < p + 4 + 4
    · rw [if_pos q4, if_pos (by omega)]
      congr 1
      omega
    rw [if_neg q4]
    by_cases q5 : p ≤ i ∧ i < p + 4
    · rw [if_pos q5, if_pos (by omega)]
      congr 1
      omega
    · rw [if_neg q5, if_neg (by omega)]
  obtain ⟨X, eX⟩ : ∃ X, X = up (up (up (up (up I5 96 0 a) 96 1 b) 96 2 c) 96 3 e) 96 4 f := ⟨_, rfl⟩
  have x1 : ∀ q, q ≠ 96 → X q = I5 q := fun q hq => by rw [eX, up_na hq, up_na hq, up_na hq, up_na hq, up_na hq]
  have x88 : X 88 13 = (p : Int) := by rw [x1 88 (by omega), f1 88 (by omega) (by omega), ep]
  obtain ⟨I6, g1, g2, g3, g4⟩ := l_feed (d := d + 99) (J := J) m (A := a5 a b c e f) (p := p) (by omega) 20 0 999978 X rfl x88 (fun i hi => by
    rw [eX, up_at, up_at, up_at, up_at, up_at]
    have : i = 0 ∨ i = 1 ∨ i = 2 ∨ i = 3 ∨ i = 4 := by omega
    rcases this with rfl | rfl | rfl | rfl | rfl <;> rfl)
  have g4' : lp (d + 99) 177 999999 55 [some (iR (some 88)), none, none, none, none, none, some (iI 0)] [] (st h X J) = _ := g4
  have hM : rn (d + 100) 177 [iR (some 88), iI a, iI b, iI c, iI e, iI f] (st h I5 J) = some (oI ((p + 20 : Nat) : Int), st h I6 J) := by
    rw [r_M_feed, e_M_feed, ygIv (x := (p : Int)) (bT_88 m) (by rw [f1 88 (by omega) (by omega), ep]), wr_id (x := (p : Int) + 20) (by omega) (by omega), if_pos c1, ygR (bT_88 m) (bR_12 m), xB_s, zSI (i := 0) (j := 0) (bT_96 m) (by omega) (bL_96 m) rfl (by omega), ygR (bT_88 m) (bR_12 m), xB_s, zSI (i := 1) (j := 1) (bT_96 m) (by omega) (bL_96 m) rfl (by omega), ygR (bT_88 m) (bR_12 m), xB_s, zSI (i := 2) (j := 2) (bT_96 m) (by omega) (bL_96 m) rfl (by omega), ygR (bT_88 m) (bR_12 m), xB_s, zSI (i := 3) (j := 3) (bT_96 m) (by omega) (bL_96 m) rfl (by omega), ygR (bT_88 m) (bR_12 m), xB_s, zSI (i := 4) (j := 4) (bT_96 m) (by omega) (bL_96 m) rfl (by omega), ← eX, g4']
  have ff : ∀ q, q ≠ 41 → q ≠ 42 → q ≠ 88 → q ≠ 95 → q ≠ 96 → I6 q = I q := fun q q1 q2 q3 q4 q5 => by rw [g1 q q3 q4, x1 q q5, f1 q q1 q2]
  have f88 : ∀ i, I6 88 i = if i = 13 then ((p + 20 : Nat) : Int) else I 88 i := fun i => by rw [g2, x1 88 (by omega), f1 88 (by omega) (by omega)]
  refine ⟨_, I5, J, I6, J, hT, hM, f1 0 (by omega) (by omega), v.tape hk (fun q hq => ff q (by omega) (by omega) (by omega) (by omega) (by omega)) (fun i hi => by rw [f88, if_neg (by omega)]) ?_⟩
  refine ⟨?_, fun i => ?_, by rw [ff 43 (by omega) (by omega) (by omega) (by omega) (by omega), f88, if_neg (by omega)]; exact t5, ?_⟩
  · rw [g1 41 (by omega) (by omega), x1 41 (by omega), e2, f88, if_pos rfl]
    omega
  · rw [g1 42 (by omega) (by omega), x1 42 (by omega), f42, g3, x1 95 (by omega), f1 95 (by omega) (by omega), show p + 0 = p from rfl]
    by_cases q : p ≤ i ∧ i < p + 20
    · rw [if_pos q, if_pos q]
      exact ⟨(byte_sb _ _).1, rfl⟩
    · rw [if_neg q, if_neg q]
      exact t4 i
  · unfold StOk at *
    rw [ff 45 (by omega) (by omega) (by omega) (by omega) (by omega), ff 46 (by omega) (by omega) (by omega) (by omega) (by omega)]
    exact t6
end P98a
