/-! How likely so few get lost: the reference (by program, wip/whole/gen43.py) -/
section P43
variable {d : Nat} {h : IH} {I J : Nat → Nat → Int}
theorem M_fewf (s : ShM h 88) : hT h 88 = 22 ∧ hR h 88 46 = some 115 ∧ hR h 88 2 = some 90 ∧ hT h 115 = 1 ∧ hL h 115 = 21 ∧ hT h 90 = 0 ∧ hL h 90 = 5794 := by
  obtain ⟨h3, ht, ⟨-, r2, -, -, -, -, -, -, -, -, -, -, -, -, -, -, -, -, -, -, -, -, -, -, -, -, r46, -⟩, ⟨-, t2, -, -, -, -, -, -, -, -, -, -, -, -, -, -, -, -, -, -, -, -, -, -, -, -, t27, -⟩, ⟨-, l2, -, -, -, -, -, -, -, -, -, -, -, -, -, -, -, -, -, -, -, -, -, -, -, -, l27, -⟩⟩ := s
  exact ⟨ht, r46, r2, t27, l27, t2, l2⟩
theorem l_fewM0 (s : ShM h 88) {k n : Int} : ∀ (m i f : Nat) (R : Nat → Int), i + m = 21 → (∀ q, q < i → R q = if q = 0 then 1000000000000 else 0) → ∃ R', (∀ q, q < 21 → R' q = if q = 0 then 1000000000000 else 0) ∧ lp d 276 (f + m + 1) 26 [some (iR (some 88)), some (iI k), some (iI n), some (iI i), none, none] [] (st h I (putJ J 115 R)) = lp d 276 f 57 [some (iR (some 88)), some (iI k), some (iI n), some (iI 0), none, none] [] (st h I (putJ J 115 R')) := by
  obtain ⟨t, r46, r2, t27, l27, t2, l2⟩ := M_fewf s
  intro m
  induction m with
  | zero =>
    intro i f R hi hR
    exact ⟨R, fun q hq => hR q (by omega), by rw [Nat.add_zero, e_M_few_26, if_neg (by omega)]⟩
  | succ m ih =>
    intro i f R hi hR
    obtain ⟨R', g1, g2⟩ := ih (i + 1) f (fun q => if q = i then (if i = 0 then 1000000000000 else 0) else R q) (by omega) (fun q hq => by
      show (if q = i then (if i = 0 then (1000000000000 : Int) else 0) else R q) = _
      by_cases z : q = i
      · rw [if_pos z, z]
      · rw [if_neg z, hR q (by omega)])
    refine ⟨R', g1, ?_⟩
    rw [show f + (m + 1) + 1 = (f + m + 1) + 1 by omega, e_M_few_26, if_pos (by omega), ygR t r46]
    by_cases z : i = 0
    · rw [if_pos (by omega), xB_s, ysJ t27 (by omega) l27 (by omega) (by omega), Int.toNat_natCast, putJ_up, wr_id (by omega) (by omega)]
      rw [if_pos z] at g2
      exact g2
    · rw [if_neg (by omega), xB_s, ysJ t27 (by omega) l27 (by omega) (by omega), Int.toNat_natCast, putJ_up, wr_id (by omega) (by omega)]
      rw [if_neg z] at g2
      exact g2
theorem l_fewM1 (s : ShM h 88) {L : Int} (eL : I 90 181 = L) (hLo : 0 ≤ L ∧ L ≤ 10) {C : Nat → Int} (hC : ∀ i, 0 ≤ C i ∧ C i ≤ 1000000000000) {k n c : Nat} (hk : k ≤ 20) (hc : c < 99) : ∀ (m f : Nat) (R : Nat → Int), m ≤ k → (∀ i, i < k → R i = if i < m then C i else if i = m then Int.tdiv (C i * (10 - L)) 10 else fwS L C i) → (0 ≤ R k ∧ R k ≤ 1000000000000 * (if m < k then (c : Int) + 1 else c)) → ∃ R', (∀ i, i < k → R' i = fwS L C i) ∧ (0 ≤ R' k ∧ R' k ≤ 1000000000000 * ((c : Int) + 1)) ∧ lp d 276 (f + m + 1) 67 [some (iR (some 88)), some (iI k), some (iI n), some (iI c), some (iI ((m : Int) - 1)), none] [] (st h I (putJ J 115 R)) = lp d 276 f 57 [some (iR (some 88)), some (iI k), some (iI n), some (iI ((c + 1 : Nat) : Int)), none, none] [] (st h I (putJ J 115 R')) := by
  obtain ⟨t, r46, r2, t27, l27, t2, l2⟩ := M_fewf s
  intro m
  induction m with
  | zero =>
    intro f R hm hR hb
    refine ⟨R, fun i hi => ?_, ⟨hb.1, by have := hb.2; split at this <;> omega⟩, ?_⟩
    · rw [hR i hi, if_neg (by omega)]
      by_cases z : i = 0
      · rw [if_pos z, z]
        show _ = Int.tdiv (C 0 * (10 - L)) 10 + 0
        rw [Int.add_zero]
      · rw [if_neg z]
    · rw [Nat.add_zero, e_M_few_67, if_pos (by omega), wr_id (by omega) (by omega)]
      rfl
  | succ m ih =>
    intro f R hm hR hb
    obtain ⟨a1, a2, a3, a4⟩ := fw_p hLo (hC m)
    have eR : R m = C m := by rw [hR m (by omega), if_pos (by omega)]
    have em : ((m + 1 : Nat) : Int) - 1 = (m : Int) := by omega
    -- what stands at m + 1
    have hy : 0 ≤ R (m + 1) ∧ R (m + 1) ≤ 100000000000000 := by
      by_cases z : m + 1 = k
      · rw [z, if_neg (by omega)] at hb
        rw [z]
        omega
      · have q := fw_p hLo (hC (m + 1))
        rw [hR (m + 1) (by omega), if_neg (by omega), if_pos rfl, q.2.2.1]
        omega
    obtain ⟨R', g1, g2, g3⟩ := ih f (fun q => if q = m then Int.tdiv (C m * (10 - L)) 10 else if q = m + 1 then R (m + 1) + Int.tdiv (C m * L) 10 else R q) (by omega) (fun i hi => by
      show (if i = m then Int.tdiv (C m * (10 - L)) 10 else if i = m + 1 then R (m + 1) + Int.tdiv (C m * L) 10 else R i) = _
      by_cases z : i = m
      · rw [if_pos z, if_neg (by omega), if_pos z, z]
      · rw [if_neg z]
        by_cases y : i = m + 1
        · rw [if_pos y, if_neg (by omega), if_neg z, ← y, hR i hi, if_neg (by omega), if_pos y]
          unfold fwS
          rw [if_neg (by omega), show i - 1 = m by omega]
        · rw [if_neg y, hR i hi]
          by_cases x : i < m
          · rw [if_pos (by omega), if_pos x]
          · rw [if_neg (by omega), if_neg (by omega), if_neg x, if_neg z]) (by
      show 0 ≤ (if k = m then Int.tdiv (C m * (10 - L)) 10 else if k = m + 1 then R (m + 1) + Int.tdiv (C m * L) 10 else R k) ∧ (if k = m then Int.tdiv (C m * (10 - L)) 10 else if k = m + 1 then R (m + 1) + Int.tdiv (C m * L) 10 else R k) ≤ _
      rw [if_neg (by omega), if_pos (show m < k by omega)]
      by_cases z : k = m + 1
      · rw [if_pos z]
        rw [z, if_neg (by omega)] at hb
        rw [a4]
        omega
      · rw [if_neg z]
        rw [if_pos (by omega)] at hb
        exact hb)
    refine ⟨R', g1, g2, ?_⟩
    have e9 : Int.tdiv (C m * L) 10 ≤ 1000000000000 ∧ 0 ≤ Int.tdiv (C m * L) 10 := by rw [a4]; omega
    have e8 : Int.tdiv (C m * (10 - L)) 10 ≤ 1000000000000 ∧ 0 ≤ Int.tdiv (C m * (10 - L)) 10 := by rw [a3]; omega
    rw [show f + (m + 1) + 1 = (f + m + 1) + 1 by omega, e_M_few_67, em, if_neg (by omega), ygR t r46, xB_s, wr_id (x := (m : Int) + 1) (by omega) (by omega), yaJ t27 l27 (by omega) (by omega), putJ_e, show ((m : Int) + 1).toNat = m + 1 by omega, ygR t r46, xB_s, yaJ t27 l27 (by omega) (by omega), putJ_e, Int.toNat_natCast, eR, ygR t r2, xB_s, yaIv (i := 181) (j := 181) (x := L) t2 l2 rfl (by omega) eL, wl_id (x := C m * L) (by omega) (by omega), xdJ_ok (by omega), wl_id (x := Int.tdiv (C m * L) 10) (by omega) (by omega), xB_s, wl_id (x := R (m + 1) + Int.tdiv (C m * L) 10) (by omega) (by omega), ysJ t27 (by omega) l27 (by omega) (by omega), show ((m : Int) + 1).toNat = m + 1 by omega, putJ_up, ygR t r46, ygR t r46, xB_s, yaJ t27 l27 (by omega) (by omega), putJ_e, Int.toNat_natCast, if_neg (show ¬ m = m + 1 by omega), eR, ygR t r2, xB_s, yaIv (i := 181) (j := 181) (x := L) t2 l2 rfl (by omega) eL, wr_id (x := 10 - L) (by omega) (by omega), wl_id (x := C m * (10 - L)) (by omega) (by omega), xdJ_ok (by omega), wl_id (x := Int.tdiv (C m * (10 - L)) 10) (by omega) (by omega), xB_s, ysJ t27 (by omega) l27 (by omega) (by omega), Int.toNat_natCast, putJ_up, wr_id (by omega) (by omega)]
    exact g3
theorem l_fewM2 (s : ShM h 88) {L : Int} (eL : I 90 181 = L) (hLo : 0 ≤ L ∧ L ≤ 10) {k n : Nat} (hk : 1 ≤ k ∧ k ≤ 20) (hn : n ≤ 99) : ∀ (m c f : Nat) (R : Nat → Int), c + m = n → (∀ i, i < k → R i = fwN L c i) → (0 ≤ R k ∧ R k ≤ 1000000000000 * (c : Int)) → ∃ R', (∀ i, i < k → R' i = fwN L n i) ∧ lp d 276 (f + m * (k + 2) + 1) 57 [some (iR (some 88)), some (iI k), some (iI n), some (iI c), none, none] [] (st h I (putJ J 115 R)) = lp d 276 f 153 [some (iR (some 88)), some (iI k), none, some (iJ 0), none, some (iI 0)] [] (st h I (putJ J 115 R')) := by
  intro m
  induction m with
  | zero =>
    intro c f R hc hR hb
    have : c = n := by omega
    subst this
    refine ⟨R, hR, ?_⟩
    rw [Nat.zero_mul, Nat.add_zero, e_M_few_57, if_neg (by omega)]
  | succ m ih =>
    intro c f R hc hR hb
    obtain ⟨R1, g1, g0, g2⟩ := l_fewM1 (d := d) (I := I) (J := J) s eL hLo (fwN_in hLo c) (k := k) (n := n) (c := c) hk.2 (by omega) k (f + m * (k + 2) + 1) R (Nat.le_refl _) (fun i hi => by rw [if_pos hi, hR i hi]) (by rw [if_neg (by omega)]; exact hb)
    obtain ⟨R2, g3, g4⟩ := ih (c + 1) f R1 (by omega) g1 ⟨g0.1, by have := g0.2; omega⟩
    refine ⟨R2, g3, ?_⟩
    rw [show f + (m + 1) * (k + 2) + 1 = (f + m * (k + 2) + 1 + k + 1) + 1 by rw [Nat.succ_mul]; omega, e_M_few_57, if_pos (by omega), wr_id (by omega) (by omega), g2, g4]
theorem l_fewM3 (s : ShM h 88) {k : Nat} (hk : k ≤ 20) {R F : Nat → Int} (hF : ∀ i, 0 ≤ F i ∧ F i ≤ 1000000000000) (hRf : ∀ i, i < k → R i = F i) : ∀ (m c f : Nat), c + m = k → lp d 276 (f + m + 1) 153 [some (iR (some 88)), some (iI k), none, some (iJ (sumL F c)), none, some (iI c)] [] (st h I (putJ J 115 R)) = some (oJ (sumL F k), st h I (putJ J 115 R)) := by
  obtain ⟨t, r46, r2, t27, l27, t2, l2⟩ := M_fewf s
  intro m
  induction m with
  | zero =>
    intro c f hc
    have : c = k := by omega
    subst this
    rw [Nat.add_zero, e_M_few_153, if_neg (by omega)]
  | succ m ih =>
    intro c f hc
    have b1 := sumL_big hF c
    have b2 := hF c
    have e : sumL F c + F c = sumL F (c + 1) := rfl
    rw [show f + (m + 1) + 1 = (f + m + 1) + 1 by omega, e_M_few_153, if_pos (by omega), ygR t r46, xB_s, yaJ t27 l27 (by omega) (by omega), putJ_e, Int.toNat_natCast, hRf c (by omega), wl_id (by omega) (by omega), e, wr_id (by omega) (by omega)]
    exact ih (c + 1) f (by omega)
theorem s_fewM (s : ShM h 88) (hLo : 0 ≤ I 90 181 ∧ I 90 181 ≤ 10) (k n : Int) : ∃ J', (∀ b, b ≠ 115 → J' b = J b) ∧ rn (d + 2) 276 [iR (some 88), iI k, iI n] (st h I J) = some (oJ (fewV (I 90 181) k n), st h I J') := by
  rw [r_M_few, e_M_few, s_lies, kI_o]
  by_cases c1 : 1 ≤ k ∧ k ≤ 20
  · by_cases c2 : 0 ≤ n ∧ n ≤ 99
    · obtain ⟨k', rfl⟩ : ∃ q : Nat, k = q := ⟨k.toNat, by omega⟩
      obtain ⟨n', rfl⟩ : ∃ q : Nat, n = q := ⟨n.toNat, by omega⟩
      have hm : n' * (k' + 2) ≤ 99 * 22 := Nat.mul_le_mul (by omega) (by omega)
      obtain ⟨R0, g1, g2⟩ := l_fewM0 (d := d + 1) (I := I) (J := J) s (k := k') (n := n') 21 0 (999977) (J 115) rfl (fun q hq => absurd hq (by omega))
      rw [putJ_self] at g2
      obtain ⟨R1, g3, g4⟩ := l_fewM2 (d := d + 1) (I := I) (J := J) s rfl hLo (k := k') (n := n') (by omega) (by omega) n' 0 (999976 - n' * (k' + 2)) R0 (by omega) (fun i hi => g1 i (by omega)) (by
        rw [g1 k' (by omega), if_neg (by omega)]
        omega)
      have g5 := l_fewM3 (d := d + 1) (I := I) (J := J) s (k := k') (by omega) (fwN_in hLo n') g3 k' 0 (999976 - n' * (k' + 2) - k' - 1) (by omega)
      refine ⟨putJ J 115 R1, fun b hb => putJ_n hb, ?_⟩
      have e0 : ((0 : Nat) : Int) = 0 := rfl
      rw [e0] at g2 g4 g5
      have f2 : 999976 - n' * (k' + 2) = (999976 - n' * (k' + 2) - k' - 1) + k' + 1 := by omega
      have g6 : lp (d + 1) 276 999999 26 [some (iR (some 88)), some (iI k'), some (iI n'), some (iI 0), none, none] [] (st h I J) = lp (d + 1) 276 999977 57 [some (iR (some 88)), some (iI k'), some (iI n'), some (iI 0), none, none] [] (st h I (putJ J 115 R0)) := g2
      have g7 : lp (d + 1) 276 999977 57 [some (iR (some 88)), some (iI k'), some (iI n'), some (iI 0), none, none] [] (st h I (putJ J 115 R0)) = lp (d + 1) 276 (999976 - n' * (k' + 2)) 153 [some (iR (some 88)), some (iI k'), none, some (iJ 0), none, some (iI 0)] [] (st h I (putJ J 115 R1)) := by
        rw [← g4]
        congr 1
        omega
      have g8 : lp (d + 1) 276 (999976 - n' * (k' + 2)) 153 [some (iR (some 88)), some (iI k'), none, some (iJ 0), none, some (iI 0)] [] (st h I (putJ J 115 R1)) = some (oJ (sumL (fwN (I 90 181) n') k'), st h I (putJ J 115 R1)) := by
        rw [← g5, ← f2]
        rfl
      rw [if_pos c1, if_neg (by omega), s_lies, kI_o, if_pos c2, if_neg (by omega), g6, g7, g8]
      unfold fewV
      rw [if_pos (by omega), Int.toNat_natCast, Int.toNat_natCast]
    · exact ⟨J, fun b hb => rfl, by rw [if_pos c1, if_neg (by omega), s_lies, kI_o, if_neg c2, if_pos rfl]; unfold fewV; rw [if_neg (by omega)]⟩
  · exact ⟨J, fun b hb => rfl, by rw [if_neg c1, if_pos rfl]; unfold fewV; rw [if_neg (by omega)]⟩
end P43
