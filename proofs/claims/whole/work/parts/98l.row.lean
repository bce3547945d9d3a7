/-! few; a row of roads (by program, wip/whole/gen98l.py) -/
def CalJ (L : Nat) (xs : Nat → Int32) (k : Nat) (h : IH) (I J : Nat → Nat → Int) (yT yM : Nat) (args : List IV) : Prop := ∀ d, ∃ (v : Int) (h1 : IH) (I1 J1 : Nat → Nat → Int) (h2 : IH) (I2 J2 : Nat → Nat → Int), rn (d + 100) yT (iR (some 3) :: args) (st h I J) = some (oJ v, st h1 I1 J1) ∧ rn (d + 100) yM (iR (some 88) :: args) (st h1 I1 J1) = some (oJ v, st h2 I2 J2) ∧ (Sc0 L xs h1 I1 ∧ ShM h1 88) ∧ Inv L xs (k + 1) h2 I2
/-- whether the j-th of three bytes each tells a road -/
def rwC (K B : Nat → Int) (z : Nat) (j : Nat) : Prop := 3 * j + 2 < z ∧ B (3 * j) ≠ B (3 * j + 1) ∧ B (3 * j) < K 183 ∧ B (3 * j + 1) < K 183 ∧ B (3 * j + 2) ≤ 99
noncomputable def rwK (K B : Nat → Int) (z : Nat) : Nat → Nat → Int
  | 0 => K
  | j + 1 => @ite _ (rwC K B z j) (Classical.propDecidable _) (roadF (rwK K B z j) (B (3 * j)).toNat (B (3 * j + 1)).toNat (B (3 * j + 2))) (rwK K B z j)
noncomputable def rwT (K B : Nat → Int) (z : Nat) : Nat → Nat
  | 0 => 0
  | j + 1 => @ite _ (rwC K B z j) (Classical.propDecidable _) (rwT K B z j + 1) (rwT K B z j)
section P98l
variable {h : IH} {I I0 I1 I2 I' J : Nat → Nat → Int} {k L d n z : Nat} {xs : Nat → Int32} {K K' B : Nat → Int} {LW : Nat → Nat × (Nat → Cls)} {LV : LwV}
theorem C_few (v : Inv L xs k h I) (hk : k < 1000) (x y : Int) : CalJ L xs k h I J 132 276 [iI x, iI y] := by
  obtain ⟨LW, o⟩ := v.now
  have s := v.t
  have m := v.m
  have kk := o.2.2.1
  have e : I 12 1 = I 90 181 := o.2.1.2.2.2.1.2.1
  have k7 := kk.2.2.2.1.2.1
  intro d
  obtain ⟨J1, -, a2⟩ := s_fewT (d := d + 98) (J := J) (I := I) s (by rw [e]; exact k7) x y
  obtain ⟨J2, -, b2⟩ := s_fewM (d := d + 98) (J := J1) (I := I) m k7 x y
  rw [e] at a2
  exact ⟨_, h, I, J1, h, I, J2, a2, b2, ⟨v.sc, v.m⟩, v.qt hk (Qt.rf I)⟩
theorem Inv.gen (v : Inv L xs k h I) (hk : k < 1000) (c : ∀ b, (b = 0 ∨ b = 1 ∨ (28 ≤ b ∧ b ≤ 40) ∨ b = 83 ∨ b = 85 ∨ b = 87 ∨ b = 89 ∨ b = 91 ∨ b = 92 ∨ b = 94 ∨ 117 ≤ b) → I' b = I b) (e55 : I' 88 55 = I 88 55) (hr : I' 3 15 = I' 88 0 ∧ I' 3 16 = I' 88 6 ∧ I' 3 17 = I' 88 47) (hl : ∃ LW, RL h I' 4 (I' 90) LW ∧ KOk (I' 90) ∧ LwA (I' 90) LW) (ht : IvT I') (hp : IvP I') : Inv L xs (k + 1) h I' := by
  obtain ⟨own, v1, v2, v3, v4, v5, v6, v7, v8, v9⟩ := v
  have hb : ∀ b, 118 ≤ b → I' b = I b := fun b hb => c b (by omega)
  have w7 : IvR I' (k + 1) := by
    obtain ⟨-, p, b⟩ := v7
    unfold IvR
    rw [c 87 (by omega), c 89 (by omega)]
    exact ⟨hr, p, fun j hj => by have := b j hj; omega⟩
  exact ⟨own, v1.fr (c _ (by omega)) (c _ (by omega)) (c _ (by omega)), ⟨hl, v2.2⟩, ⟨⟨v3.1.1.fr (c _ (by omega)) (c _ (by omega)) hb, v3.1.2.fr (c _ (by omega)) (c _ (by omega)) hb⟩, v3.2⟩, ht, hp, v6.fr (fun b b1 b2 => c b (by omega)) (c _ (by omega)) e55, w7, v8.fr (c _ (by omega)) (c _ (by omega)) hb, v9.s hk⟩
theorem rwT_le : ∀ j, rwT K B z j ≤ j
  | 0 => Nat.le_refl _
  | j + 1 => by
    have := rwT_le j
    show @ite _ (rwC K B z j) (Classical.propDecidable _) (rwT K B z j + 1) (rwT K B z j) ≤ j + 1
    split <;> omega
theorem rwK_y {j : Nat} (c : rwC K B z j) : rwK K B z (j + 1) = roadF (rwK K B z j) (B (3 * j)).toNat (B (3 * j + 1)).toNat (B (3 * j + 2)) ∧ rwT K B z (j + 1) = rwT K B z j + 1 := ⟨if_pos c, if_pos c⟩
theorem rwK_n {j : Nat} (c : ¬ rwC K B z j) : rwK K B z (j + 1) = rwK K B z j ∧ rwT K B z (j + 1) = rwT K B z j := ⟨if_neg c, if_neg c⟩
theorem rwK_ok (k : KOk K) (hB : ∀ i, 0 ≤ B i ∧ B i ≤ 255) : ∀ j, KOk (rwK K B z j) ∧ ∀ i, 169 ≤ i → rwK K B z j i = K i
  | 0 => ⟨k, fun _ _ => rfl⟩
  | j + 1 => by
    have hn := k.1
    obtain ⟨a1, a2⟩ := rwK_ok k hB j
    by_cases c : rwC K B z j
    · rw [(rwK_y c).1]
      obtain ⟨c1, c2, c3, c4, c5⟩ := c
      have b1 := hB (3 * j)
      have b2 := hB (3 * j + 1)
      have b3 := hB (3 * j + 2)
      exact ⟨roadF_ok a1 (by omega) (by omega) (by omega) ⟨b3.1, c5⟩, fun i hi => by rw [roadF_of (by omega) (by omega) _ (by omega), a2 i hi]⟩
    · rw [(rwK_n c).1]
      exact ⟨a1, a2⟩
/-- the class tells the road -/
theorem t_told (s : ShT h) {I : Nat → Nat → Int} {K0 : Nat → Int} (o : NowOk h I K0 LW) (e183 : K0 183 = K 183) (e42 : I 42 = B) (hB : ∀ i, 0 ≤ B i ∧ B i ≤ 255) (e41 : I 41 1 = (z : Int)) (hz : z ≤ 400) {j : Nat} (hj : 3 * j < z) : rn (d + 2) 143 [iR (some 3), iI ((3 * j : Nat) : Int)] (st h I J) = some (oI (@ite _ (rwC K B z j) (Classical.propDecidable _) 1 0), st h I J) := by
  have b1 := hB (3 * j)
  have b2 := hB (3 * j + 1)
  rw [r_T_isRoadTold, e_T_isRoadTold, ygR (aT_3 s) (aR_3_4 s), xB_s, ygIv (aT_41 s) e41, wr_id (x := ((3 * j : Nat) : Int) + 2) (by omega) (by omega)]
  by_cases c1 : 3 * j + 2 < z
  case neg => rw [if_neg (by omega), xZ_0, if_neg (fun w => c1 w.1)]
  rw [if_pos (by omega), ygR (aT_3 s) (aR_3_4 s), xB_s, ygR (aT_41 s) (aR_41_0 s), xB_s, yaIv (i := 3 * j) (x := B (3 * j)) (aT_42 s) (aL_42 s) rfl (by omega) (by rw [e42]), ygR (aT_3 s) (aR_3_4 s), xB_s, ygR (aT_41 s) (aR_41_0 s), xB_s, wr_id (x := ((3 * j : Nat) : Int) + 1) (by omega) (by omega), yaIv (i := 3 * j + 1) (x := B (3 * j + 1)) (aT_42 s) (aL_42 s) (by omega) (by omega) (by rw [e42])]
  by_cases c2 : B (3 * j) = B (3 * j + 1)
  · rw [if_pos c2, xZ_0, if_neg (fun w => w.2.1 c2)]
  rw [if_neg c2, ygR (aT_3 s) (aR_3_0 s), ygR (aT_3 s) (aR_3_4 s), xB_s, ygR (aT_41 s) (aR_41_0 s), xB_s, yaIv (i := 3 * j) (x := B (3 * j)) (aT_42 s) (aL_42 s) rfl (by omega) (by rw [e42]), xB_s, yck (aT_4 s), t_isT o, kI_o, e183]
  by_cases c3 : B (3 * j) < K 183
  case neg => rw [if_neg (show ¬ (0 ≤ B (3 * j) ∧ B (3 * j) < K 183) from fun w => c3 w.2), if_pos rfl, xZ_0, if_neg (fun w => c3 w.2.2.1)]
  rw [if_pos (show 0 ≤ B (3 * j) ∧ B (3 * j) < K 183 from ⟨b1.1, c3⟩), if_neg (by omega), ygR (aT_3 s) (aR_3_0 s), ygR (aT_3 s) (aR_3_4 s), xB_s, ygR (aT_41 s) (aR_41_0 s), xB_s, yaIv (i := 3 * j + 1) (x := B (3 * j + 1)) (aT_42 s) (aL_42 s) (by omega) (by omega) (by rw [e42]), xB_s, yck (aT_4 s), t_isT o, kI_o, e183]
  by_cases c4 : B (3 * j + 1) < K 183
  case neg => rw [if_neg (show ¬ (0 ≤ B (3 * j + 1) ∧ B (3 * j + 1) < K 183) from fun w => c4 w.2), if_pos rfl, xZ_0, if_neg (fun w => c4 w.2.2.2.1)]
  rw [if_pos (show 0 ≤ B (3 * j + 1) ∧ B (3 * j + 1) < K 183 from ⟨b2.1, c4⟩), if_neg (by omega), ygR (aT_3 s) (aR_3_4 s), xB_s, ygR (aT_41 s) (aR_41_0 s), xB_s, yaIv (i := 3 * j + 2) (x := B (3 * j + 2)) (aT_42 s) (aL_42 s) (by omega) (by omega) (by rw [e42])]
  by_cases c5 : B (3 * j + 2) ≤ 99
  · rw [if_pos c5, xZ_1, if_pos ⟨c1, c2, c3, c4, c5⟩]
  · rw [if_neg c5, xZ_0, if_neg (fun w => c5 w.2.2.2.2)]
theorem l_rowT (s : ShT h) {I0 : Nat → Nat → Int} (o : NowOk h I0 K LW) (e42 : I0 42 = B) (hB : ∀ i, 0 ≤ B i ∧ B i ≤ 255) (e41 : I0 41 1 = (z : Int)) (hz : z ≤ 400) {M : Nat} (hM : 3 * M < z + 3 ∧ z ≤ 3 * M) : ∀ (q j f : Nat) (I : Nat → Nat → Int), j + q = M → (∀ b, b ≠ 10 → b ≠ 11 → I b = I0 b) → RL h I 4 (rwK K B z j) LW → ∃ I1, (∀ b, b ≠ 10 → b ≠ 11 → I1 b = I0 b) ∧ RL h I1 4 (rwK K B z M) LW ∧ lp (d + 2) 107 (f + q + 1) 23 [some (iR (some 3)), some (iI (rwT K B z j : Nat)), some (iI (j - rwT K B z j : Nat)), some (iI ((3 * j : Nat) : Int))] [] (st h I J) = some (oI (rwT K B z M : Nat), st h (up (up (up (up I1 41 1 0) 3 16 (M - rwT K B z M : Nat)) 72 0 0) 3 15 0) J) := by
  have hn := o.2.2.1.1
  have hk := o.2.2.1
  intro q
  induction q with
  | zero =>
    intro j f I hj hf r
    have ej : j = M := by omega
    subst ej
    refine ⟨I, hf, r, ?_⟩
    rw [Nat.add_zero, e_T_row_23, ygR (aT_3 s) (aR_3_4 s), xB_s, ygIv (x := (z : Int)) (aT_41 s) (by rw [hf 41 (by omega) (by omega)]; exact e41), if_neg (by omega), ygR (aT_3 s) (aR_3_4 s), xB_s, ypI (aT_41 s) (by omega), ypI (aT_3 s) (by omega), ygR (aT_3 s) (aR_3_9 s), xB_s, yck (aT_72 s), s_pastClear (ShT_72 s), kV_o, yck (aT_3 s), s_taken s, kI_o]
  | succ q ih =>
    intro j f I hj hf r
    have hl := rwT_le (K := K) (B := B) (z := z) j
    have kj := rwK_ok (z := z) hk hB j
    have oj : NowOk h I (rwK K B z j) LW := ⟨s, r, kj.1, o.2.2.2.1.cg hk fun i i1 i2 => kj.2 i (by omega), o.2.2.2.2⟩
    have ht := t_told (d := d) (J := J) s oj (K := K) (B := B) (z := z) (kj.2 183 (by omega)) (by rw [hf 42 (by omega) (by omega)]; exact e42) hB (by rw [hf 41 (by omega) (by omega)]; exact e41) hz (j := j) (by omega)
    have b1 := hB (3 * j)
    have b2 := hB (3 * j + 1)
    have b3 := hB (3 * j + 2)
    rw [show f + (q + 1) + 1 = (f + q + 1) + 1 by omega, e_T_row_23, ygR (aT_3 s) (aR_3_4 s), xB_s, ygIv (x := (z : Int)) (aT_41 s) (by rw [hf 41 (by omega) (by omega)]; exact e41), if_pos (by omega), yck (aT_3 s), ht, kI_o, wr_id (x := ((3 * j : Nat) : Int) + 3) (by omega) (by omega), show ((3 * j : Nat) : Int) + 3 = ((3 * (j + 1) : Nat) : Int) by omega]
    by_cases c : rwC K B z j
    · obtain ⟨c1, c2, c3, c4, c5⟩ := id c
      have r' : RL h (landRoad I 4 (B (3 * j)) (B (3 * j + 1)) (B (3 * j + 2))) 4 (rwK K B z (j + 1)) LW := by
        rw [(rwK_y c).1]
        have := r.road kj.1 (by omega) (x := (B (3 * j)).toNat) (y := (B (3 * j + 1)).toNat) (by omega) (by omega) (by omega) (v := B (3 * j + 2)) ⟨b3.1, c5⟩
        rw [show (((B (3 * j)).toNat : Nat) : Int) = B (3 * j) by omega, show (((B (3 * j + 1)).toNat : Nat) : Int) = B (3 * j + 1) by omega] at this
        exact this
      obtain ⟨I1, a1, a2, a3⟩ := ih (j + 1) f _ (by omega) (fun b q1 q2 => by rw [landRoad_o _ q1 q2]; exact hf b q1 q2) r'
      refine ⟨I1, a1, a2, ?_⟩
      rw [(rwK_y c).2] at a3
      rw [if_pos c, if_neg (by omega), ygR (aT_3 s) (aR_3_0 s), ygR (aT_3 s) (aR_3_4 s), xB_s, ygR (aT_41 s) (aR_41_0 s), xB_s, yaIv (i := 3 * j) (x := B (3 * j)) (aT_42 s) (aL_42 s) rfl (by omega) (by rw [hf 42 (by omega) (by omega), e42]), ygR (aT_3 s) (aR_3_4 s), xB_s, ygR (aT_41 s) (aR_41_0 s), xB_s, wr_id (x := ((3 * j : Nat) : Int) + 1) (by omega) (by omega), yaIv (i := 3 * j + 1) (x := B (3 * j + 1)) (aT_42 s) (aL_42 s) (by omega) (by omega) (by rw [hf 42 (by omega) (by omega), e42]), ygR (aT_3 s) (aR_3_4 s), xB_s, ygR (aT_41 s) (aR_41_0 s), xB_s, wr_id (x := ((3 * j : Nat) : Int) + 2) (by omega) (by omega), yaIv (i := 3 * j + 2) (x := B (3 * j + 2)) (aT_42 s) (aL_42 s) (by omega) (by omega) (by rw [hf 42 (by omega) (by omega), e42]), xB_s, yck (aT_4 s), s_setRoad (ShT_4 s) (by omega) (by omega), kV_o, wr_id (x := ((rwT K B z j : Nat) : Int) + 1) (by omega) (by omega), show ((rwT K B z j : Nat) : Int) + 1 = ((rwT K B z j + 1 : Nat) : Int) by omega, show j - rwT K B z j = j + 1 - (rwT K B z j + 1) by omega]
      exact a3
    · obtain ⟨I1, a1, a2, a3⟩ := ih (j + 1) f I (by omega) hf (by rw [(rwK_n c).1]; exact r)
      refine ⟨I1, a1, a2, ?_⟩
      rw [(rwK_n c).2] at a3
      rw [if_neg c, if_pos rfl, wr_id (x := ((j - rwT K B z j : Nat) : Int) + 1) (by omega) (by omega), show ((j - rwT K B z j : Nat) : Int) + 1 = ((j + 1 - rwT K B z j : Nat) : Int) by omega]
      exact a3
theorem sb_7 {b : Int} (hb : 0 ≤ b ∧ b ≤ 255) {n : Int} (hn : n ≤ 7) : (0 ≤ sb b ∧ sb b < n) ↔ b < n := by
  unfold sb
  split <;> omega
theorem sb_e {b : Int} (hb : 0 ≤ b ∧ b ≤ 255) (h : b < 128) : sb b = b := if_pos h
theorem l_rowM (m : ShM h 88) {I0 : Nat → Nat → Int} (k : KOk K) (e95 : ∀ i, I0 95 i = sb (B i)) (hB : ∀ i, 0 ≤ B i ∧ B i ≤ 255) (hz : z ≤ 400) {M : Nat} (hM : 3 * M ≤ z ∧ z < 3 * M + 3) {w0 : Nat} (hw0 : w0 ≤ 1) : ∀ (q j f : Nat) (I : Nat → Nat → Int), j + q = M → (∀ b, b ≠ 88 → b ≠ 90 → I b = I0 b) → (∀ i, i ≠ 6 → I 88 i = I0 88 i) → I 88 6 = ((w0 + (j - rwT K B z j) : Nat) : Int) → I 90 = rwK K B z j → ∃ I1, (∀ b, b ≠ 88 → b ≠ 90 → I1 b = I0 b) ∧ (∀ i, I1 88 i = if i = 0 then 0 else if i = 31 then 0 else if i = 6 then ((w0 + (M - rwT K B z M) : Nat) : Int) else I0 88 i) ∧ I1 90 = rwK K B z M ∧ lp (d + 4) 175 (f + 2 * q + 1) 40 [some (iR (some 88)), some (iI (z : Int)), some (iI (rwT K B z j : Nat)), some (iI ((3 * j : Nat) : Int)), none] [] (st h I J) = some (oI (rwT K B z M : Nat), st h I1 J) := by
  have hn := k.1
  intro q
  induction q with
  | zero =>
    intro j f I hj hf h88 h6 e90
    have ej : j = M := by omega
    subst ej
    refine ⟨up (up I 88 31 0) 88 0 0, fun b q1 q2 => by rw [up_na q1, up_na q1]; exact hf b q1 q2, fun i => ?_, by rw [up_na (by omega), up_na (by omega)]; exact e90, ?_⟩
    · rw [up_at, up_at]
      by_cases c0 : i = 0
      · rw [if_pos c0, if_pos c0]
      rw [if_neg c0, if_neg c0]
      by_cases c1 : i = 31
      · rw [if_pos c1, if_pos c1]
      rw [if_neg c1, if_neg c1]
      by_cases c2 : i = 6
      · rw [if_pos c2, c2, h6]
      · rw [if_neg c2, h88 i c2]
    · rw [show f + 2 * 0 + 1 = f + 1 by omega, e_M_row_40, wr_id (x := ((3 * j : Nat) : Int) + 3) (by omega) (by omega), if_neg (by omega), yck (bT_88 m), s_settled m, kI_o]
  | succ q ih =>
    intro j f I hj hf h88 h6 e90
    have hl := rwT_le (K := K) (B := B) (z := z) j
    have kj := rwK_ok (z := z) k hB j
    have b1 := hB (3 * j)
    have b2 := hB (3 * j + 1)
    have b3 := hB (3 * j + 2)
    have e183 := kj.2 183 (by omega)
    have s1 := sb_7 b1 hn.2
    have s2 := sb_7 b2 hn.2
    have v95 : ∀ i, I 95 i = sb (B i) := fun i => by rw [hf 95 (by omega) (by omega)]; exact e95 i
    have two := m_two (d := d + 1) (J := J) m (sb (B (3 * j))) (sb (B (3 * j + 1))) e90 (by rw [e183]; exact hn)
    rw [e183] at two
    -- what counts
    have key : ∀ (is : Int) (I' : Nat → Nat → Int), (is = 0 ∨ is = 1) → (is = 1 → rwC K B z j) → (is = 0 → ¬ rwC K B z j) → (∀ b, b ≠ 88 → b ≠ 90 → I' b = I0 b) → (∀ i, i ≠ 6 → I' 88 i = I0 88 i) → I' 88 6 = ((w0 + (j - rwT K B z j) : Nat) : Int) → I' 90 = rwK K B z (j + 1) → ∃ I1, (∀ b, b ≠ 88 → b ≠ 90 → I1 b = I0 b) ∧ (∀ i, I1 88 i = if i = 0 then 0 else if i = 31 then 0 else if i = 6 then ((w0 + (M - rwT K B z M) : Nat) : Int) else I0 88 i) ∧ I1 90 = rwK K B z M ∧ lp (d + 4) 175 (f + 2 * q + 1 + 1) 123 [some (iR (some 88)), some (iI (z : Int)), some (iI (rwT K B z j : Nat)), some (iI ((3 * j : Nat) : Int)), some (iI is)] [] (st h I' J) = some (oI (rwT K B z M : Nat), st h I1 J) := by
      intro is I' his h1 h0 f1 f2 f3 f4
      have e6 : I' 88 6 = ((w0 + (j - rwT K B z j) : Nat) : Int) := f3
      rw [e_M_row_123, wr_id (x := ((3 * j : Nat) : Int) + 3) (by omega) (by omega), show ((3 * j : Nat) : Int) + 3 = ((3 * (j + 1) : Nat) : Int) by omega, wr_id (x := ((rwT K B z j : Nat) : Int) + 0) (by omega) (by omega), wr_id (x := ((rwT K B z j : Nat) : Int) + 1) (by omega) (by omega), Int.add_zero]
      rcases his with rfl | rfl
      · have c := h0 rfl
        obtain ⟨I1, a1, a2, a3, a4⟩ := ih (j + 1) f (up I' 88 6 ((w0 + (j + 1 - rwT K B z (j + 1)) : Nat) : Int)) (by omega) (fun b q1 q2 => by rw [up_na q1]; exact f1 b q1 q2) (fun i hi => by rw [up_ni hi]; exact f2 i hi) (up_eq _ _ _ _) (by rw [up_na (by omega)]; exact f4)
        refine ⟨I1, a1, a2, a3, ?_⟩
        rw [(rwK_n c).2] at a4
        rw [if_pos rfl, ygIv (bT_88 m) e6, if_pos rfl, ypI (bT_88 m) (by omega), wr_id (x := ((w0 + (j - rwT K B z j) : Nat) : Int) + 1) (by omega) (by omega), show ((w0 + (j - rwT K B z j) : Nat) : Int) + 1 = ((w0 + (j + 1 - rwT K B z j) : Nat) : Int) by omega]
        exact a4
      · have c := h1 rfl
        obtain ⟨I1, a1, a2, a3, a4⟩ := ih (j + 1) f (up I' 88 6 ((w0 + (j + 1 - rwT K B z (j + 1)) : Nat) : Int)) (by omega) (fun b q1 q2 => by rw [up_na q1]; exact f1 b q1 q2) (fun i hi => by rw [up_ni hi]; exact f2 i hi) (up_eq _ _ _ _) (by rw [up_na (by omega)]; exact f4)
        refine ⟨I1, a1, a2, a3, ?_⟩
        rw [(rwK_y c).2] at a4
        rw [if_neg (by omega), ygIv (bT_88 m) e6, if_neg (by omega), ypI (bT_88 m) (by omega), wr_id (x := ((w0 + (j - rwT K B z j) : Nat) : Int) + 0) (by omega) (by omega), show ((w0 + (j - rwT K B z j) : Nat) : Int) + 0 = ((w0 + (j + 1 - (rwT K B z j + 1)) : Nat) : Int) by omega, show ((rwT K B z j : Nat) : Int) + 1 = ((rwT K B z j + 1 : Nat) : Int) by omega]
        exact a4
    rw [show f + 2 * (q + 1) + 1 = (f + 2 * q + 1 + 1) + 1 by omega, e_M_row_40, wr_id (x := ((3 * j : Nat) : Int) + 3) (by omega) (by omega), if_pos (by omega), ygR (bT_88 m) (bR_11 m), xB_s, yaBv (i := 3 * j) (Or.inl (bT_95 m)) (bL_95 m) rfl (by omega) (v95 _), ygR (bT_88 m) (bR_11 m), xB_s, wr_id (x := ((3 * j : Nat) : Int) + 1) (by omega) (by omega), yaBv (i := 3 * j + 1) (Or.inl (bT_95 m)) (bL_95 m) (by omega) (by omega) (v95 _), yck (bT_88 m), two, kI_o]
    by_cases c1 : (0 ≤ sb (B (3 * j)) ∧ sb (B (3 * j)) < K 183) ∧ (0 ≤ sb (B (3 * j + 1)) ∧ sb (B (3 * j + 1)) < K 183) ∧ sb (B (3 * j)) ≠ sb (B (3 * j + 1))
    case neg =>
      have nc : ¬ rwC K B z j := fun w => c1 (by
        obtain ⟨w1, w2, w3, w4, w5⟩ := w
        refine ⟨s1.2 w3, s2.2 w4, ?_⟩
        rw [sb_e b1 (by omega), sb_e b2 (by omega)]
        exact w2)
      rw [if_neg c1, if_pos rfl, if_pos rfl]
      exact key 0 I (Or.inl rfl) (fun w => by omega) (fun _ => nc) hf h88 h6 (by rw [(rwK_n nc).1]; exact e90)
    obtain ⟨c2, c3, c4⟩ := c1
    have d1 := s1.1 c2
    have d2 := s2.1 c3
    have x1 := sb_e b1 (by omega)
    have x2 := sb_e b2 (by omega)
    rw [if_pos (show (0 ≤ sb (B (3 * j)) ∧ sb (B (3 * j)) < K 183) ∧ (0 ≤ sb (B (3 * j + 1)) ∧ sb (B (3 * j + 1)) < K 183) ∧ sb (B (3 * j)) ≠ sb (B (3 * j + 1)) from ⟨c2, c3, c4⟩), if_neg (by omega), ygR (bT_88 m) (bR_11 m), xB_s, wr_id (x := ((3 * j : Nat) : Int) + 2) (by omega) (by omega), yaBv (i := 3 * j + 2) (Or.inl (bT_95 m)) (bL_95 m) (by omega) (by omega) (v95 _), s_lies, kI_o]
    by_cases c5 : 0 ≤ sb (B (3 * j + 2)) ∧ sb (B (3 * j + 2)) ≤ 99
    case neg =>
      have nc : ¬ rwC K B z j := fun w => c5 (by
        obtain ⟨w1, w2, w3, w4, w5⟩ := w
        rw [sb_e b3 (by omega)]
        omega)
      rw [if_neg c5, if_pos rfl, if_pos rfl]
      exact key 0 I (Or.inl rfl) (fun w => by omega) (fun _ => nc) hf h88 h6 (by rw [(rwK_n nc).1]; exact e90)
    have d5 : B (3 * j + 2) ≤ 99 := by
      unfold sb at c5
      split at c5 <;> omega
    have x3 := sb_e b3 (by omega)
    have cc : rwC K B z j := ⟨by omega, by rw [x1, x2] at c4; exact c4, d1, d2, d5⟩
    have g90 : modRoad I 88 (B (3 * j)) (B (3 * j + 1)) (B (3 * j + 2)) 90 = rwK K B z (j + 1) := by
      rw [(rwK_y cc).1, ← e90, ← modRoad_K, show (((B (3 * j)).toNat : Nat) : Int) = B (3 * j) by omega, show (((B (3 * j + 1)).toNat : Nat) : Int) = B (3 * j + 1) by omega]
    rw [if_pos c5, if_neg (by omega), if_neg (by omega), ygR (bT_88 m) (bR_11 m), xB_s, yaBv (i := 3 * j) (x := B (3 * j)) (Or.inl (bT_95 m)) (bL_95 m) rfl (by omega) (by rw [v95, x1]), ygR (bT_88 m) (bR_11 m), xB_s, yaBv (i := 3 * j + 1) (x := B (3 * j + 1)) (Or.inl (bT_95 m)) (bL_95 m) (by omega) (by omega) (by rw [v95, x2]), ygR (bT_88 m) (bR_11 m), xB_s, yaBv (i := 3 * j + 2) (x := B (3 * j + 2)) (Or.inl (bT_95 m)) (bL_95 m) (by omega) (by omega) (by rw [v95, x3]), yck (bT_88 m), s_laysRoad m (by omega) (by omega), kV_o]
    exact key 1 _ (Or.inr rfl) (fun _ => cc) (fun w => by omega) (fun b q1 q2 => by rw [modRoad_o q2]; exact hf b q1 q2) (fun i hi => by rw [modRoad_o (by omega)]; exact h88 i hi) (by rw [modRoad_o (by omega)]; exact h6) g90
theorem C_row (v : Inv L xs k h I) (hk : k < 1000) : Cal L xs k h I J 107 175 [] := by
  obtain ⟨LW, o⟩ := v.now
  have s := v.t
  have m := v.m
  have kk := o.2.2.1
  have hn := kk.1
  obtain ⟨⟨t1, t2, t3⟩, t4, t5, t6⟩ := v.tp
  obtain ⟨z, ez⟩ : ∃ z : Nat, I 88 13 = (z : Int) := ⟨(I 88 13).toNat, by omega⟩
  by_cases z0 : z = 0
  · subst z0
    have rv : RfV (-6) := by unfold RfV; omega
    refine Cal.r v hk (-6) rv (fun d => ⟨I, J, TnQ.rf I, ?_⟩) fun d I1 J1 t => ⟨up (refT (-6) I1) 88 13 0, J1, ⟨fun b hb => up_na (by omega), fun i hi => ?_⟩, ?_⟩
    · rw [r_T_row, e_T_row, ygR (aT_3 s) (aR_3_4 s), xB_s, ygIv (aT_41 s) t1, if_pos (by omega), yck (aT_3 s), s_refT (d := d + 98) s (x := -6) rv (v.b87 rv).1, kI_o]
    · have e13 : refT (-6) I1 88 13 = 0 := by rw [refT_n (by omega) (by omega), t 88 (by omega) (by omega) (by omega) (by omega), ez]; rfl
      rw [up_at]
      by_cases q : i = 13
      · rw [if_pos q, q, e13]
      · rw [if_neg q]
    · have e13 : refT (-6) I1 88 13 = 0 := by rw [refT_n (by omega) (by omega), t 88 (by omega) (by omega) (by omega) (by omega), ez]; rfl
      have e89 : (up (refT (-6) I1) 88 13 0) 89 = I 89 := by rw [up_na (by omega), refT_n (by omega) (by omega), t 89 (by omega) (by omega) (by omega) (by omega)]
      rw [r_M_row, e_M_row, ygIv (bT_88 m) e13, ypI (bT_88 m) (by omega), if_pos rfl, yck (bT_88 m), s_refM (d := d + 98) m (x := -6) rv (by rw [e89]; exact (v.b87 rv).2), kI_o]
  refine Cal.of v fun d => ?_
  obtain ⟨B, eB⟩ : ∃ B, B = I 42 := ⟨_, rfl⟩
  have hB : ∀ i, 0 ≤ B i ∧ B i ≤ 255 := fun i => by rw [eB]; exact (t4 i).1
  obtain ⟨MT, eMT⟩ : ∃ MT, MT = (z + 2) / 3 := ⟨_, rfl⟩
  obtain ⟨MM, eMM⟩ : ∃ MM, MM = z / 3 := ⟨_, rfl⟩
  obtain ⟨I1, a1, a2, a3⟩ := l_rowT (d := d + 97) (J := J) s o eB.symm hB (z := z) (by rw [t1, ez]) (by omega) (M := MT) (by omega) MT 0 (999998 - MT) I (by omega) (fun b _ _ => rfl) o.2.1
  rw [show 999998 - MT + MT + 1 = 999999 by omega] at a3
  have a3' : lp (d + 99) 107 999999 23 [some (iR (some 3)), some (iI 0), some (iI 0), some (iI 0)] [] (st h I J) = _ := a3
  have hT : rn (d + 100) 107 [iR (some 3)] (st h I J) = some (oI (rwT (I 90) B z MT : Nat), st h (up (up (up (up I1 41 1 0) 3 16 (MT - rwT (I 90) B z MT : Nat)) 72 0 0) 3 15 0) J) := by
    rw [r_T_row, e_T_row, ygR (aT_3 s) (aR_3_4 s), xB_s, ygIv (aT_41 s) t1, if_neg (by omega), a3']
  generalize hX : (up (up (up (up I1 41 1 0) 3 16 (MT - rwT (I 90) B z MT : Nat)) 72 0 0) 3 15 0) = X at hT
  have x0 : ∀ b, b ≠ 3 → b ≠ 10 → b ≠ 11 → b ≠ 41 → b ≠ 72 → X b = I b := fun b q1 q2 q3 q4 q5 => by rw [← hX, up_na q1, up_na q5, up_na q1, up_na q4, a1 b q2 q3]
  have x90 : X 90 = I 90 := x0 90 (by omega) (by omega) (by omega) (by omega) (by omega)
  have x88 : X 88 = I 88 := x0 88 (by omega) (by omega) (by omega) (by omega) (by omega)
  have x95 : X 95 = I 95 := x0 95 (by omega) (by omega) (by omega) (by omega) (by omega)
  obtain ⟨w0, ew0⟩ : ∃ w0 : Nat, w0 = if z % 3 = 0 then 0 else 1 := ⟨_, rfl⟩
  have hw01 : w0 ≤ 1 := by rw [ew0]; split <;> omega
  have end_ : rwK (I 90) B z MT = rwK (I 90) B z MM ∧ rwT (I 90) B z MT = rwT (I 90) B z MM ∧ MT = MM + w0 := by
    by_cases c : z % 3 = 0
    · rw [if_pos c] at ew0
      have : MT = MM := by omega
      rw [this]
      exact ⟨rfl, rfl, by omega⟩
    · rw [if_neg c] at ew0
      have : MT = MM + 1 := by omega
      rw [this]
      have nc : ¬ rwC (I 90) B z MM := fun w => by have := w.1; omega
      exact ⟨(rwK_n nc).1, (rwK_n nc).2, by omega⟩
  obtain ⟨e1, e2, e3⟩ := end_
  have hlT := rwT_le (K := I 90) (B := B) (z := z) MM
  obtain ⟨Y, eY⟩ : ∃ Y, Y = up (up X 88 13 0) 88 6 (w0 : Int) := ⟨_, rfl⟩
  have y0 : ∀ b, b ≠ 88 → Y b = X b := fun b q => by rw [eY, up_na q, up_na q]
  obtain ⟨I2, b1, b2, b3, b4⟩ := l_rowM (d := d + 95) (J := J) (I0 := Y) m kk (fun i => by rw [y0 95 (by omega), x95, eB]; exact (t4 i).2) hB (z := z) (by omega) (M := MM) (by omega) hw01 MM 0 (999998 - 2 * MM) Y (by omega) (fun b _ _ => rfl) (fun i _ => rfl) (by rw [eY, up_eq]; show (w0 : Int) = ((w0 + (0 - 0) : Nat) : Int); omega) (by rw [y0 90 (by omega), x90]; rfl)
  rw [show 999998 - 2 * MM + 2 * MM + 1 = 999999 by omega] at b4
  have b4' : lp (d + 99) 175 999999 40 [some (iR (some 88)), some (iI (z : Int)), some (iI 0), some (iI 0), none] [] (st h Y J) = _ := b4
  have hM : rn (d + 100) 175 [iR (some 88)] (st h X J) = some (oI (rwT (I 90) B z MM : Nat), st h I2 J) := by
    rw [r_M_row, e_M_row, ygIv (x := (z : Int)) (bT_88 m) (by rw [x88, ez]), ypI (bT_88 m) (by omega), if_neg (by omega), xmI_ok (by omega), Int.tmod_eq_emod_of_nonneg (by omega), wr_id (x := (z : Int) % 3) (by omega) (by omega)]
    by_cases c : z % 3 = 0
    · rw [if_pos c] at ew0
      rw [ew0] at eY
      rw [if_pos (by omega), ypI (bT_88 m) (by omega)]
      rw [eY] at b4'
      exact b4'
    · rw [if_neg c] at ew0
      rw [ew0] at eY
      rw [if_neg (by omega), ypI (bT_88 m) (by omega)]
      rw [eY] at b4'
      exact b4'
  rw [e2] at hT hX
  rw [e1] at a2
  have kj := rwK_ok (z := z) kk hB MM
  have f0 : ∀ b, b ≠ 3 → b ≠ 10 → b ≠ 11 → b ≠ 41 → b ≠ 72 → b ≠ 88 → b ≠ 90 → I2 b = I b := fun b q1 q2 q3 q4 q5 q6 q7 => by rw [b1 b q6 q7, y0 b q6, x0 b q1 q2 q3 q4 q5]
  have g88 : ∀ i, I2 88 i = if i = 0 then 0 else if i = 31 then 0 else if i = 6 then ((w0 + (MM - rwT (I 90) B z MM) : Nat) : Int) else if i = 13 then 0 else I 88 i := fun i => by
    rw [b2]
    by_cases c : i = 6
    · rw [if_neg (by omega), if_neg (by omega), if_pos c, if_neg (by omega), if_neg (by omega), if_pos c]
    · rw [if_neg c, if_neg c, eY, up_ni c, up_at, x88]
  have g3 : ∀ i, I2 3 i = if i = 15 then 0 else if i = 16 then ((MT - rwT (I 90) B z MM : Nat) : Int) else I 3 i := fun i => by
    rw [b1 3 (by omega) (by omega), y0 3 (by omega), ← hX, up_at, up_na (by omega), up_at, up_na (by omega), a1 3 (by omega) (by omega)]
  have g41 : I2 41 1 = 0 := by rw [b1 41 (by omega) (by omega), y0 41 (by omega), ← hX, up_na (by omega), up_na (by omega), up_na (by omega), up_eq]
  have g72 : ∀ i, I2 72 i = if i = 0 then 0 else I 72 i := fun i => by
    rw [b1 72 (by omega) (by omega), y0 72 (by omega), ← hX, up_na (by omega), up_at, up_na (by omega), up_na (by omega), a1 72 (by omega) (by omega)]
  refine ⟨_, X, J, I2, J, hT, hM, x0 0 (by omega) (by omega) (by omega) (by omega) (by omega), v.gen hk (fun b hb => f0 b (by omega) (by omega) (by omega) (by omega) (by omega) (by omega) (by omega)) (by rw [g88, if_neg (by omega), if_neg (by omega), if_neg (by omega), if_neg (by omega)]) ⟨by rw [g3, g88, if_pos rfl, if_pos rfl], ?_, by rw [g3, g88, if_neg (by omega), if_neg (by omega), if_neg (by omega), if_neg (by omega), if_neg (by omega), if_neg (by omega)]; exact v.r.1.2.2⟩ ⟨LW, ?_, by rw [b3]; exact kj.1, by rw [b3]; exact o.2.2.2.1.cg kk fun i i1 i2 => kj.2 i (by omega)⟩ ⟨?_, ?_, ?_, ?_⟩ (v.p.no (by rw [g72, if_pos rfl]) (by rw [g72, if_neg (by omega)]) (by rw [g88, if_neg (by omega), if_pos rfl]))⟩
  · rw [g3, g88, if_neg (by omega), if_pos rfl, if_neg (by omega), if_neg (by omega), if_pos rfl]
    omega
  · rw [b3]
    exact a2.fr4 o.2.2.2.2 fun b hb => by rw [b1 b (by omega) (by omega), y0 b (by omega), ← hX, up_na (by omega), up_na (by omega), up_na (by omega), up_na (by omega)]
  · rw [g41, g88, if_neg (by omega), if_neg (by omega), if_neg (by omega), if_pos rfl]
    omega
  · rw [f0 42 (by omega) (by omega) (by omega) (by omega) (by omega) (by omega) (by omega), f0 95 (by omega) (by omega) (by omega) (by omega) (by omega) (by omega) (by omega)]
    exact t4
  · rw [f0 43 (by omega) (by omega) (by omega) (by omega) (by omega) (by omega) (by omega), g88, if_neg (by omega), if_neg (by omega), if_neg (by omega), if_neg (by omega)]
    exact t5
  · unfold StOk at *
    rw [f0 45 (by omega) (by omega) (by omega) (by omega) (by omega) (by omega) (by omega), f0 46 (by omega) (by omega) (by omega) (by omega) (by omega) (by omega) (by omega)]
    exact t6
end P98l
