/-! The Mover's rounds (by program, wip/whole/gen33.py) -/
/-- what a round of x, y, z answers -/
def roundR (h : IH) (I : Nat → Nat → Int) (a : Nat) (x y z : Int) : Int :=
  if x = y then -1 else if y = z then -1 else if x = z then -1 else if ¬ (0 ≤ x ∧ x < I a 0) then -2 else if ¬ (0 ≤ y ∧ y < I a 0) then -2 else if ¬ (0 ≤ z ∧ z < I a 0) then -2
  else if sendV I a (lawOf h I a) (I (a + 1) x.toNat) x y = 0 then -3 else if sendV I a (lawOf h I a) (I (a + 1) y.toNat) y z = 0 then -3 else if sendV I a (lawOf h I a) (I (a + 1) z.toNat) z x = 0 then -3 else I (a + 1) z.toNat
def roundI (I : Nat → Nat → Int) (a : Nat) (x y z : Int) : Nat → Nat → Int := putI (putI (putI I a y (I (a + 1) x.toNat)) a z (I (a + 1) y.toNat)) a x (I (a + 1) z.toNat)
section P33
variable {d : Nat} {h : IH} {J I : Nat → Nat → Int} {a j v : Nat}
theorem s_tryRound (hv : ShMo h v) (hl : LJ h I a (v + 1)) (hd : a + 11 < v ∨ v + 5 < a) (x y z : Int) : ∃ I', Fr I' (if roundR h I a x y z < 0 then I else roundI I a x y z) (v + 1) (v + 4) ∧ rn (d + 5) 22 [iR (some v), iR (some a), iI x, iI y, iI z] (st h I J) = some (oI (roundR h I a x y z), st h I' J) := by
  have lt := La_t hl.1.1
  have lr1 := La_r1 hl.1.1
  have lt1 := La_t1 hl.1.1
  have ll1 := La_l1 hl.1.1
  have jt := Ju_t hl.1.2
  have vt := Mo_t hv
  have vr := Mo_r0 hv
  have hn := hl.2.1
  have n10 : ¬ ((1 : Int) = 0) := by decide
  have fin : ∀ (r : Int) (I1 : Nat → Nat → Int), r < 0 → roundR h I a x y z = r → Fr I1 I (v + 1) (v + 4) → ∃ I', Fr I' (if roundR h I a x y z < 0 then I else roundI I a x y z) (v + 1) (v + 4) ∧ some (oI r, st h I1 J) = some (oI (roundR h I a x y z), st h I' J) := by
    intro r I1 hr e hf
    rw [e, if_pos hr]
    exact ⟨I1, hf, rfl⟩
  rw [r_Mo_tryRound, e_Mo_tryRound]
  by_cases h1 : x = y
  · rw [if_pos h1]
    exact fin _ I (by omega) (by unfold roundR; rw [if_pos h1]) (Fr.rf _ _ _)
  rw [if_neg h1]
  by_cases k1 : y = z
  · rw [if_pos k1]
    exact fin _ I (by omega) (by unfold roundR; rw [if_neg h1, if_pos k1]) (Fr.rf _ _ _)
  rw [if_neg k1]
  by_cases k2 : x = z
  · rw [if_pos k2]
    exact fin _ I (by omega) (by unfold roundR; rw [if_neg h1, if_neg k1, if_pos k2]) (Fr.rf _ _ _)
  rw [if_neg k2, xB_s, yck lt, s_isTown hl.1.1, kI_o]
  have e0 : roundR h I a x y z = if ¬ (0 ≤ x ∧ x < I a 0) then -2 else if ¬ (0 ≤ y ∧ y < I a 0) then -2 else if ¬ (0 ≤ z ∧ z < I a 0) then -2
  else if sendV I a (lawOf h I a) (I (a + 1) x.toNat) x y = 0 then -3 else if sendV I a (lawOf h I a) (I (a + 1) y.toNat) y z = 0 then -3 else if sendV I a (lawOf h I a) (I (a + 1) z.toNat) z x = 0 then -3 else I (a + 1) z.toNat := by
    unfold roundR
    rw [if_neg h1, if_neg k1, if_neg k2]
  by_cases h2 : 0 ≤ x ∧ x < I a 0
  case neg =>
    rw [if_neg h2, if_pos rfl]
    exact fin _ I (by omega) (by rw [e0, if_pos h2]) (Fr.rf _ _ _)
  rw [if_neg (notnot h2)] at e0
  rw [if_pos h2, if_neg n10, xB_s, yck lt, s_isTown hl.1.1, kI_o]
  by_cases h3 : 0 ≤ y ∧ y < I a 0
  case neg =>
    rw [if_neg h3, if_pos rfl]
    exact fin _ I (by omega) (by rw [e0, if_pos h3]) (Fr.rf _ _ _)
  rw [if_neg (notnot h3)] at e0
  rw [if_pos h3, if_neg n10, xB_s, yck lt, s_isTown hl.1.1, kI_o]
  by_cases h4 : 0 ≤ z ∧ z < I a 0
  case neg =>
    rw [if_neg h4, if_pos rfl]
    exact fin _ I (by omega) (by rw [e0, if_pos h4]) (Fr.rf _ _ _)
  rw [if_neg (notnot h4)] at e0
  rw [if_pos h4, if_neg n10]
  have hx : 0 ≤ x ∧ x < 7 := by omega
  have hy : 0 ≤ y ∧ y < 7 := by omega
  have hz : 0 ≤ z ∧ z < 7 := by omega
  have hhx := (hl.2.2.2.2.2.2 x.toNat (by omega)).1
  have hhy := (hl.2.2.2.2.2.2 y.toNat (by omega)).1
  have hhz := (hl.2.2.2.2.2.2 z.toNat (by omega)).1
  obtain ⟨I1, f1, g1⟩ := l_send (d := d) (J := J) hl hhx hx hy
  rw [e_Mo_tryRound_47, xB_s, ygR lt lr1, xB_s, yaI lt1 ll1 hx.1 (by omega), xB_s, ygR lt lr1, xB_s, yaI lt1 ll1 hy.1 (by omega), xB_s, ygR lt lr1, xB_s, yaI lt1 ll1 hz.1 (by omega), ygR vt vr, xB_s, yck jt, g1, kI_o]
  by_cases h5 : sendV I a (lawOf h I a) (I (a + 1) x.toNat) x y = 0
  · rw [if_pos h5]
    exact fin _ I1 (by omega) (by rw [e0, if_pos h5]) f1
  rw [if_neg h5] at e0
  rw [if_neg h5]
  obtain ⟨I2, f2, g2⟩ := l_send (d := d) (J := J) (hl.fr f1) hhy hy hz
  rw [hl.send f1] at g2
  rw [e_Mo_tryRound_88, ygR vt vr, xB_s, yck jt, g2, kI_o]
  by_cases h6 : sendV I a (lawOf h I a) (I (a + 1) y.toNat) y z = 0
  · rw [if_pos h6]
    exact fin _ I2 (by omega) (by rw [e0, if_pos h6]) (f1.tr f2)
  rw [if_neg h6] at e0
  obtain ⟨I3, f3, g3⟩ := l_send (d := d) (J := J) (hl.fr (f1.tr f2)) hhz hz hx
  rw [hl.send (f1.tr f2)] at g3
  rw [if_neg h6, ygR vt vr, xB_s, yck jt, g3, kI_o]
  by_cases h7 : sendV I a (lawOf h I a) (I (a + 1) z.toNat) z x = 0
  · rw [if_pos h7]
    exact fin _ I3 (by omega) (by rw [e0, if_pos h7]) ((f1.tr f2).tr f3)
  rw [if_neg h7] at e0
  rw [if_neg h7, e0, if_neg (by omega), xB_s, yck lt, s_put hl.1.1 hy hhx, kV_o, xB_s, yck lt, s_put hl.1.1 hz hhy, kV_o, e_Mo_tryRound_137, xB_s, yck lt, s_put hl.1.1 hx hhz, kV_o]
  exact ⟨_, putI_fr (putI_fr (putI_fr ((f1.tr f2).tr f3) (by omega) _ _) (by omega) _ _) (by omega) _ _, rfl⟩
end P33
