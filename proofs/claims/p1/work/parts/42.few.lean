/-! How likely so few get lost (by program, wip/whole/gen42.py) -/
def putJ (J : Nat → Nat → Int) (b : Nat) (C : Nat → Int) : Nat → Nat → Int := fun q => if q = b then C else J q
theorem putJ_e (J : Nat → Nat → Int) (b : Nat) (C : Nat → Int) : putJ J b C b = C := if_pos rfl
theorem putJ_n {J : Nat → Nat → Int} {b q : Nat} {C : Nat → Int} (z : q ≠ b) : putJ J b C q = J q := if_neg z
theorem putJ_up (J : Nat → Nat → Int) (b i : Nat) (C : Nat → Int) (x : Int) : up (putJ J b C) b i x = putJ J b (fun k => if k = i then x else C k) := by
  funext q k
  by_cases z : q = b
  · subst z
    rw [up_at, putJ_e, putJ_e]
  · rw [up_na z, putJ_n z, putJ_n z]
theorem putJ_self (J : Nat → Nat → Int) (b : Nat) : putJ J b (J b) = J := by
  funext q
  unfold putJ
  split
  · rename_i z
    rw [z]
  · rfl
/-- one more van: how likely so many are lost -/
def fwS (L : Int) (C : Nat → Int) : Nat → Int := fun i => Int.tdiv (C i * (10 - L)) 10 + (if i = 0 then 0 else Int.tdiv (C (i - 1) * L) 10)
def fwN (L : Int) : Nat → Nat → Int
  | 0 => fun i => if i = 0 then 1000000000000 else 0
  | n + 1 => fwS L (fwN L n)
theorem fw_p {L x : Int} (hL : 0 ≤ L ∧ L ≤ 10) (hx : 0 ≤ x ∧ x ≤ 1000000000000) : (0 ≤ x * (10 - L) ∧ x * (10 - L) ≤ 1000000000000 * (10 - L)) ∧ (0 ≤ x * L ∧ x * L ≤ 1000000000000 * L) ∧ (Int.tdiv (x * (10 - L)) 10 = x * (10 - L) / 10) ∧ Int.tdiv (x * L) 10 = x * L / 10 := by
  have h1 := Int.mul_nonneg hx.1 (show 0 ≤ 10 - L by omega)
  have h2 := Int.mul_nonneg hx.1 hL.1
  exact ⟨⟨h1, Int.mul_le_mul_of_nonneg_right hx.2 (by omega)⟩, ⟨h2, Int.mul_le_mul_of_nonneg_right hx.2 hL.1⟩, Int.tdiv_eq_ediv_of_nonneg h1, Int.tdiv_eq_ediv_of_nonneg h2⟩
theorem fwS_in {L : Int} (hL : 0 ≤ L ∧ L ≤ 10) {C : Nat → Int} (hC : ∀ i, 0 ≤ C i ∧ C i ≤ 1000000000000) (i : Nat) : 0 ≤ fwS L C i ∧ fwS L C i ≤ 1000000000000 := by
  obtain ⟨a1, -, a3, -⟩ := fw_p hL (hC i)
  obtain ⟨-, b2, -, b4⟩ := fw_p hL (hC (i - 1))
  unfold fwS
  rw [a3, b4]
  split <;> omega
theorem fwN_in {L : Int} (hL : 0 ≤ L ∧ L ≤ 10) : ∀ n i, 0 ≤ fwN L n i ∧ fwN L n i ≤ 1000000000000
  | 0, i => by
    unfold fwN
    split <;> omega
  | n + 1, i => fwS_in hL (fwN_in hL n) i
def fewV (L k n : Int) : Int := if 1 ≤ k ∧ k ≤ 20 ∧ 0 ≤ n ∧ n ≤ 99 then sumL (fwN L n.toNat) k.toNat else -1
theorem sumL_big {f : Nat → Int} (h : ∀ t, 0 ≤ f t ∧ f t ≤ 1000000000000) : ∀ c, 0 ≤ sumL f c ∧ sumL f c ≤ 1000000000000 * (c : Int)
  | 0 => by unfold sumL; omega
  | c + 1 => by
    have := sumL_big h c
    have := h c
    unfold sumL
    omega
section P42
variable {d : Nat} {h : IH} {I J : Nat → Nat → Int}
theorem l_fillJ {a len : Nat} (t : hT h a = 1) (a3 : 3 ≤ a) (l : hL h a = len) (hl : len ≤ 1000000) : ∀ (k i n : Nat) (R : Nat → Int), i + k = len → (∀ q, q < i → R q = 0) → ∃ R', (∀ q, q < len → R' q = 0) ∧ lp d 304 (n + k + 1) 6 [some (iR (some a)), some (iJ 0), none, some (iI i), some (iI len)] [] (st h I (putJ J a R)) = some (o0, st h I (putJ J a R')) := by
  intro k
  induction k with
  | zero =>
    intro i n R hk hR
    exact ⟨R, fun q hq => hR q (by omega), by rw [e_Arr_fill_0_6, if_neg (by omega)]⟩
  | succ k ih =>
    intro i n R hk hR
    obtain ⟨R', g1, g2⟩ := ih (i + 1) n (fun q => if q = i then 0 else R q) (by omega) (fun q hq => by
      show (if q = i then 0 else R q) = 0
      split
      · rfl
      · exact hR q (by omega))
    refine ⟨R', g1, ?_⟩
    rw [show n + (k + 1) + 1 = (n + k + 1) + 1 by omega, e_Arr_fill_0_6, if_pos (by omega), xB_s, ysJ t a3 l (by omega) (by omega), Int.toNat_natCast, putJ_up, wr_id (by omega) (by omega)]
    exact g2
theorem s_fillJ {a len : Nat} (t : hT h a = 1) (a3 : 3 ≤ a) (l : hL h a = len) (hl : len ≤ 999990) (R : Nat → Int) : ∃ R', (∀ q, q < len → R' q = 0) ∧ rn (d + 1) 304 [iR (some a), iJ 0] (st h I (putJ J a R)) = some (o0, st h I (putJ J a R')) := by
  obtain ⟨R', g1, g2⟩ := l_fillJ (d := d) (I := I) (J := J) t a3 l (by omega) len 0 (999998 - len) R (by omega) (fun q hq => absurd hq (by omega))
  refine ⟨R', g1, ?_⟩
  rw [r_Arr_fill_0, e_Arr_fill_0, xB_s, yle (show hT h a < 6 by rw [t]; decide) l (by omega), show (999999 : Nat) = (999998 - len) + len + 1 by omega]
  exact g2
/-! The class -/
theorem l_fewT1 (s : ShT h) {L : Int} (hL : 0 ≤ L ∧ L ≤ 10) {C : Nat → Int} (hC : ∀ i, 0 ≤ C i ∧ C i ≤ 1000000000000) {k n c : Nat} (hk : k ≤ 20) (hc : c < 99) : ∀ (m f : Nat) (R : Nat → Int), m ≤ k → (∀ i, i < k → R i = if i < m then C i else fwS L C i) → ∃ R', (∀ i, i < k → R' i = fwS L C i) ∧ lp d 132 (f + 2 * m + 1) 66 [some (iR (some 3)), some (iI k), some (iI n), some (iI L), some (iI c), some (iI ((m : Int) - 1)), none, none] [] (st h I (putJ J 86 R)) = lp d 132 f 55 [some (iR (some 3)), some (iI k), some (iI n), some (iI L), some (iI ((c + 1 : Nat) : Int)), none, none, none] [] (st h I (putJ J 86 R')) := by
  have t3 := s.2.1
  have r13 : hR h 3 13 = some 86 := s.2.2.1.2.2.2.2.2.2.2.2.2.2.2.2.2.1
  obtain ⟨t86, l86⟩ := s.2.2.2.2.2.2.2.2.2.2.2.2.2.2.2.2.1
  intro m
  induction m with
  | zero =>
    intro f R hm hR
    refine ⟨R, fun i hi => by rw [hR i hi, if_neg (by omega)], ?_⟩
    rw [show f + 2 * 0 + 1 = f + 1 by omega, e_T_few_66, if_pos (by omega), wr_id (by omega) (by omega)]
    rfl
  | succ m ih =>
    intro f R hm hR
    obtain ⟨a1, -, a3, -⟩ := fw_p hL (hC m)
    have b0 := fwS_in hL hC m
    obtain ⟨R', g1, g2⟩ := ih f (fun q => if q = m then fwS L C m else R q) (by omega) (fun i hi => by
      show (if i = m then fwS L C m else R i) = _
      by_cases z : i = m
      · rw [if_pos z, if_neg (by omega), z]
      · rw [if_neg z, hR i hi]
        by_cases y : i < m
        · rw [if_pos y, if_pos (by omega)]
        · rw [if_neg y, if_neg (by omega)])
    refine ⟨R', g1, ?_⟩
    have eR : R m = C m := by rw [hR m (by omega), if_pos (by omega)]
    have em : ((m + 1 : Nat) : Int) - 1 = (m : Int) := by omega
    rw [show f + 2 * (m + 1) + 1 = ((f + 2 * m + 1) + 1) + 1 by omega, e_T_few_66, em, if_neg (by omega)]
    by_cases z : (m : Int) = 0
    · have z0 : m = 0 := by omega
      subst z0
      rw [if_pos z, ygR t3 r13, ygR t3 r13, xB_s, yaJ t86 l86 (by omega) (by omega), putJ_e, Int.toNat_natCast, eR, wr_id (x := 10 - L) (by omega) (by omega), wl_id (x := C 0 * (10 - L)) (by omega) (by omega), xdJ_ok (by omega), wl_id (x := Int.tdiv (C 0 * (10 - L)) 10) (by omega) (by omega), xB_s, ysJ t86 (by omega) l86 (by omega) (by omega), Int.toNat_natCast, putJ_up, wl_id (by omega) (by omega), e_T_few_125, wr_id (by omega) (by omega)]
      have e5 : Int.tdiv (C 0 * (10 - L)) 10 + 0 = fwS L C 0 := rfl
      rw [e5]
      exact g2
    · obtain ⟨m', rfl⟩ : ∃ q, m = q + 1 := ⟨m - 1, by omega⟩
      obtain ⟨-, b2, -, b4⟩ := fw_p hL (hC m')
      have eR2 : R m' = C m' := by rw [hR m' (by omega), if_pos (by omega)]
      have em2 : ((m' + 1 : Nat) : Int) - 1 = (m' : Int) := by omega
      have e5 : Int.tdiv (C (m' + 1) * (10 - L)) 10 + Int.tdiv (C m' * L) 10 = fwS L C (m' + 1) := by
        unfold fwS
        rw [if_neg (by omega), Nat.add_sub_cancel]
      rw [if_neg z, ygR t3 r13, xB_s, wr_id (x := ((m' + 1 : Nat) : Int) - 1) (by omega) (by omega), em2, yaJ t86 l86 (by omega) (by omega), putJ_e, Int.toNat_natCast, eR2, wl_id (x := C m' * L) (by omega) (by omega), xdJ_ok (by omega), wl_id (x := Int.tdiv (C m' * L) 10) (by omega) (by omega), ygR t3 r13, ygR t3 r13, xB_s, yaJ t86 l86 (by omega) (by omega), putJ_e, Int.toNat_natCast, eR, wr_id (x := 10 - L) (by omega) (by omega), wl_id (x := C (m' + 1) * (10 - L)) (by omega) (by omega), xdJ_ok (by omega), wl_id (x := Int.tdiv (C (m' + 1) * (10 - L)) 10) (by omega) (by omega), xB_s, ysJ t86 (by omega) l86 (by omega) (by omega), Int.toNat_natCast, putJ_up, e5, wl_id (by omega) (by omega), e_T_few_125, wr_id (by omega) (by omega)]
      exact g2
theorem l_fewT2 (s : ShT h) {L : Int} (hL : 0 ≤ L ∧ L ≤ 10) {k n : Nat} (hk : 1 ≤ k ∧ k ≤ 20) (hn : n ≤ 99) : ∀ (m c f : Nat) (R : Nat → Int), c + m = n → (∀ i, i < k → R i = fwN L c i) → ∃ R', (∀ i, i < k → R' i = fwN L n i) ∧ lp d 132 (f + m * (2 * k + 2) + 1) 55 [some (iR (some 3)), some (iI k), some (iI n), some (iI L), some (iI c), none, none, none] [] (st h I (putJ J 86 R)) = lp d 132 f 143 [some (iR (some 3)), some (iI k), none, none, some (iJ 0), none, some (iI 0), none] [] (st h I (putJ J 86 R')) := by
  intro m
  induction m with
  | zero =>
    intro c f R hc hR
    have : c = n := by omega
    subst this
    refine ⟨R, hR, ?_⟩
    rw [Nat.zero_mul, Nat.add_zero, e_T_few_55, if_neg (by omega)]
  | succ m ih =>
    intro c f R hc hR
    obtain ⟨R1, g1, g2⟩ := l_fewT1 (d := d) (I := I) (J := J) s hL (fwN_in hL c) (k := k) (n := n) (c := c) hk.2 (by omega) k (f + m * (2 * k + 2) + 1) R (Nat.le_refl _) (fun i hi => by rw [if_pos hi, hR i hi])
    obtain ⟨R2, g3, g4⟩ := ih (c + 1) f R1 (by omega) g1
    refine ⟨R2, g3, ?_⟩
    rw [show f + (m + 1) * (2 * k + 2) + 1 = (f + m * (2 * k + 2) + 1 + 2 * k + 1) + 1 by rw [Nat.succ_mul]; omega, e_T_few_55, if_pos (by omega), wr_id (by omega) (by omega), g2, g4]
theorem l_fewT3 (s : ShT h) {k : Nat} (hk : k ≤ 20) {R F : Nat → Int} (hF : ∀ i, 0 ≤ F i ∧ F i ≤ 1000000000000) (hRf : ∀ i, i < k → R i = F i) : ∀ (m c f : Nat), c + m = k → lp d 132 (f + m + 1) 143 [some (iR (some 3)), some (iI k), none, none, some (iJ (sumL F c)), none, some (iI c), none] [] (st h I (putJ J 86 R)) = some (oJ (sumL F k), st h I (putJ J 86 R)) := by
  have t3 := s.2.1
  have r13 : hR h 3 13 = some 86 := s.2.2.1.2.2.2.2.2.2.2.2.2.2.2.2.2.1
  obtain ⟨t86, l86⟩ := s.2.2.2.2.2.2.2.2.2.2.2.2.2.2.2.2.1
  intro m
  induction m with
  | zero =>
    intro c f hc
    have : c = k := by omega
    subst this
    rw [Nat.add_zero, e_T_few_143, if_neg (by omega)]
  | succ m ih =>
    intro c f hc
    have b1 := sumL_big hF c
    have b2 := hF c
    have e : sumL F c + F c = sumL F (c + 1) := rfl
    rw [show f + (m + 1) + 1 = (f + m + 1) + 1 by omega, e_T_few_143, if_pos (by omega), ygR t3 r13, xB_s, yaJ t86 l86 (by omega) (by omega), putJ_e, Int.toNat_natCast, hRf c (by omega), wl_id (by omega) (by omega), e, wr_id (by omega) (by omega)]
    exact ih (c + 1) f (by omega)
theorem s_fewT (s : ShT h) (hLo : 0 ≤ I 12 1 ∧ I 12 1 ≤ 10) (k n : Int) : ∃ J', (∀ b, b ≠ 86 → J' b = J b) ∧ rn (d + 2) 132 [iR (some 3), iI k, iI n] (st h I J) = some (oJ (fewV (I 12 1) k n), st h I J') := by
  have t3 := s.2.1
  have r0 : hR h 3 0 = some 4 := s.2.2.1.1
  have r13 : hR h 3 13 = some 86 := s.2.2.1.2.2.2.2.2.2.2.2.2.2.2.2.2.1
  obtain ⟨t86, l86⟩ := s.2.2.2.2.2.2.2.2.2.2.2.2.2.2.2.2.1
  have r8 : hR h 4 8 = some 12 := La_r8 s.2.2.2.1
  have t12 : hT h 12 = 0 := La_t8 s.2.2.2.1
  have l12 : hL h 12 = 3 := La_l8 s.2.2.2.1
  rw [r_T_few, e_T_few]
  by_cases c1 : k < 1
  · exact ⟨J, fun b hb => rfl, by rw [if_pos c1]; unfold fewV; rw [if_neg (by omega)]⟩
  · by_cases c2 : k ≤ 20
    · by_cases c3 : n < 0
      · exact ⟨J, fun b hb => rfl, by rw [if_neg c1, if_pos c2, if_pos c3]; unfold fewV; rw [if_neg (by omega)]⟩
      · by_cases c4 : n ≤ 99
        · obtain ⟨k', rfl⟩ : ∃ q : Nat, k = q := ⟨k.toNat, by omega⟩
          obtain ⟨n', rfl⟩ : ∃ q : Nat, n = q := ⟨n.toNat, by omega⟩
          obtain ⟨R0, g1, g2⟩ := s_fillJ (d := d) (I := I) (J := J) t86 (by omega) l86 (by omega) (J 86)
          rw [putJ_self] at g2
          have hm : n' * (2 * k' + 2) ≤ 99 * 42 := Nat.mul_le_mul (by omega) (by omega)
          obtain ⟨R1, g3, g4⟩ := l_fewT2 (d := d + 1) (I := I) (J := J) s hLo (k := k') (n := n') (by omega) (by omega) n' 0 (999997 - n' * (2 * k' + 2)) (fun q => if q = 0 then 1000000000000 else R0 q) (by omega) (fun i hi => by
            show (if i = 0 then 1000000000000 else R0 i) = (if i = 0 then 1000000000000 else 0)
            rw [g1 i (by omega)])
          have g5 := l_fewT3 (d := d + 1) (I := I) (J := J) s (k := k') (by omega) (fwN_in hLo n') g3 k' 0 (999997 - n' * (2 * k' + 2) - k' - 1) (by omega)
          refine ⟨putJ J 86 R1, fun b hb => putJ_n hb, ?_⟩
          rw [if_neg c1, if_pos c2, if_neg c3, if_pos c4, ygR t3 r0, xB_s, ygR (La_t s.2.2.2.1) r8, xB_s, yaIv (i := 1) (j := 1) (x := I 12 1) t12 l12 rfl (by omega) rfl, ygR t3 r13, g2, kV_o, e_T_few_44, ygR t3 r13, xB_s, ysJ t86 (by omega) l86 (by omega) (by omega), Int.toNat_zero, putJ_up]
          have f2 : 999997 - n' * (2 * k' + 2) = (999997 - n' * (2 * k' + 2) - k' - 1) + k' + 1 := by omega
          have e0 : ((0 : Nat) : Int) = 0 := rfl
          rw [e0] at g4 g5
          have g6 : lp (d + 1) 132 999998 55 [some (iR (some 3)), some (iI k'), some (iI n'), some (iI (I 12 1)), some (iI 0), none, none, none] [] (st h I (putJ J 86 (fun q => if q = 0 then 1000000000000 else R0 q))) = lp (d + 1) 132 (999997 - n' * (2 * k' + 2)) 143 [some (iR (some 3)), some (iI k'), none, none, some (iJ 0), none, some (iI 0), none] [] (st h I (putJ J 86 R1)) := by
            rw [← g4]
            congr 1
            omega
          rw [g6]
          have g7 : lp (d + 1) 132 (999997 - n' * (2 * k' + 2)) 143 [some (iR (some 3)), some (iI k'), none, none, some (iJ 0), none, some (iI 0), none] [] (st h I (putJ J 86 R1)) = some (oJ (sumL (fwN (I 12 1) n') k'), st h I (putJ J 86 R1)) := by
            rw [← g5, ← f2]
            rfl
          rw [g7]
          unfold fewV
          rw [if_pos (by omega), Int.toNat_natCast, Int.toNat_natCast]
        · exact ⟨J, fun b hb => rfl, by rw [if_neg c1, if_pos c2, if_neg c3, if_neg c4]; unfold fewV; rw [if_neg (by omega)]⟩
    · exact ⟨J, fun b hb => rfl, by rw [if_neg c1, if_neg c2]; unfold fewV; rw [if_neg (by omega)]⟩
end P42
