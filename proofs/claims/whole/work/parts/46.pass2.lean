/-! Passing, the whole; a year by draws (by program, wip/whole/gen46.py) -/
section P46
variable {d : Nat} {h : IH} {J I : Nat → Nat → Int} {a v : Nat}
theorem s_pass2 (hv : ShMo h v) (ha : ShLand h a) (hd : a + 11 < v ∨ v + 5 < a) (hn : 0 ≤ I a 0 ∧ I a 0 ≤ 7) (hr : ∀ s : Nat, s < 7 → 0 ≤ I (a + 1) s ∧ I (a + 1) s < 7) (hh : ∀ k, 0 ≤ I (a + 5) k ∧ I (a + 5) k ≤ 99) (hy : 0 ≤ I (a + 8) 0 ∧ I (a + 8) 0 ≤ 999) {f : Nat → Int} {X : Int} : ∀ (k c n : Nat) (I1 : Nat → Nat → Int), (c : Int) + k = I a 0 → Fr I1 (passI I a f c) (v + 1) (v + 5) → (∀ s : Nat, (s : Int) < I a 0 → I1 (v + 5) s = f s) →
    ∃ I2, Fr I2 (up (passI I a f (I a 0).toNat) (a + 8) 0 (I (a + 8) 0 + 1)) (v + 1) (v + 5) ∧ lp d 24 (n + k + 1) 87 [some (iR (some v)), some (iR (some a)), none, some (iI X), some (iI c), none] [] (st h I1 J) = some (oI X, st h I2 J) := by
  have a3 := La_3 ha
  have v3 := Mo_3 hv
  intro k
  induction k with
  | zero =>
    intro c n I1 hc hf hq
    have e0 : I1 a 0 = I a 0 := by rw [hf a (by omega), passI_na (by omega) (by omega)]
    have e8 : I1 (a + 8) 0 = I (a + 8) 0 := by rw [hf (a + 8) (by omega), passI_na (by omega) (by omega)]
    have ec : (I a 0).toNat = c := by omega
    refine ⟨up I1 (a + 8) 0 (I (a + 8) 0 + 1), by rw [ec]; exact fr_up hf _ _ (by omega), ?_⟩
    rw [Nat.add_zero, e_Mo_tryPass_87, xB_s, ygI (La_t ha), e0, if_neg (by omega), xB_s, ygR (La_t ha) (La_r8 ha), xB_s, yaIv (i := 0) (j := 0) (x := I (a + 8) 0) (La_t8 ha) (La_l8 ha) rfl (by omega) e8, xB_s, zSI (i := 0) (j := 0) (La_t8 ha) (by omega) (La_l8 ha) rfl (by omega), wr_id (by omega) (by omega)]
  | succ k ih =>
    intro c n I1 hc hf hq
    have e0 : I1 a 0 = I a 0 := by rw [hf a (by omega), passI_na (by omega) (by omega)]
    have e1 : I1 (a + 1) = I (a + 1) := by rw [hf (a + 1) (by omega), passI_na (by omega) (by omega)]
    have e5 : I1 (a + 5) = passI I a f c (a + 5) := hf (a + 5) (by omega)
    have hc7 : c < 7 := by omega
    have hcn : (c : Int) < I a 0 := by omega
    obtain ⟨x1, x2⟩ := hr c hc7
    have hb := passI_had (f := f) hh c (c * 7 + (I (a + 1) c).toNat)
    have ei : ((c : Int) * 7 + I (a + 1) c) = ((c * 7 + (I (a + 1) c).toNat : Nat) : Int) := by omega
    have hi : c * 7 + (I (a + 1) c).toNat < 49 := by omega
    obtain ⟨I2, g1, g2⟩ := ih (c + 1) n (up (up I1 (a + 5) (c * 7 + (I (a + 1) c).toNat) (imin (passI I a f c (a + 5) (c * 7 + (I (a + 1) c).toNat) + 1) 99)) (a + 3) c (f c)) (by omega) (fr_up (fr_up hf _ _ (by omega)) _ _ (by omega)) (fun s hs => by rw [up_na (by omega), up_na (by omega)]; exact hq s hs)
    refine ⟨I2, g1, ?_⟩
    rw [show n + (k + 1) + 1 = (n + k + 1) + 1 by omega, e_Mo_tryPass_87, xB_s, ygI (La_t ha), e0, if_pos hcn, xB_s, ygR (La_t ha) (La_r1 ha), xB_s, yaN (La_t1 ha) (La_l1 ha) hc7, e1, xB_s, ygR (La_t ha) (La_r5 ha), xB_s, ygR (La_t ha) (La_r5 ha), xB_s, wr_id (x := (c : Int) * 7) (by omega) (by omega), wr_id (x := (c : Int) * 7 + I (a + 1) c) (by omega) (by omega), yaIv (i := c * 7 + (I (a + 1) c).toNat) (x := passI I a f c (a + 5) (c * 7 + (I (a + 1) c).toNat)) (La_t5 ha) (La_l5 ha) ei hi (by rw [e5]), xB_s, wr_id (x := passI I a f c (a + 5) (c * 7 + (I (a + 1) c).toNat) + 1) (by omega) (by omega), zSI (i := c * 7 + (I (a + 1) c).toNat) (La_t5 ha) (by omega) (La_l5 ha) ei hi, xB_s, ygR (La_t ha) (La_r3 ha), ygR (Mo_t hv) (Mo_r1 hv), xB_s, yaIv (i := c) (x := f c) (Mo_t5 hv) (Mo_l5 hv) rfl hc7 (by rw [up_na (by omega)]; exact hq c hcn), xB_s, zSI (i := c) (La_t3 ha) (by omega) (La_l3 ha) rfl hc7, wr_id (by omega) (by omega)]
    exact g2
/-- what passing answers -/
def passR (h : IH) (I : Nat → Nat → Int) (a : Nat) : Int := if I (a + 8) 0 < 999 then sumL (fun t => likeV I a (lawOf h I a) t (I (a + 1) t)) (I a 0).toNat else -3
/-- what passing leaves -/
def passW (h : IH) (I : Nat → Nat → Int) (a : Nat) : Nat → Nat → Int := if I (a + 8) 0 < 999 then up (passI I a (fun s => altV I a (lawOf h I a) s) (I a 0).toNat) (a + 8) 0 (I (a + 8) 0 + 1) else I
theorem s_tryPass (hv : ShMo h v) (hl : LJ h I a (v + 1)) (hd : a + 11 < v ∨ v + 5 < a) (hw : LwOk h I (v + 1) (v + 5) (lawOf h I a)) (hp : PmOk I a) (hb : ∀ s, 0 ≤ I (a + 3) s ∧ I (a + 3) s ≤ 9) (hh : ∀ k, 0 ≤ I (a + 5) k ∧ I (a + 5) k ≤ 99) (hy : 0 ≤ I (a + 8) 0 ∧ I (a + 8) 0 ≤ 999) (q1 : hT h 1 = 0) (q2 : hL h 1 = 3) (e9 : I 1 0 = 999) : ∃ I', Fr I' (passW h I a) (v + 1) (v + 5) ∧ rn (d + 5) 24 [iR (some v), iR (some a)] (st h I J) = some (oI (passR h I a), st h I' J) := by
  have ha := hl.1.1
  have hn := hl.2.1
  rw [r_Mo_tryPass, e_Mo_tryPass, xB_s, ygR (La_t ha) (La_r8 ha), xB_s, yaIv (i := 0) (j := 0) (x := I (a + 8) 0) (La_t8 ha) (La_l8 ha) rfl (by omega) rfl, yaIv (i := 0) (j := 0) (x := 999) q1 q2 rfl (by omega) e9]
  by_cases c : I (a + 8) 0 < 999
  · have f0 : Fr I I (v + 1) (v + 5) := fun b hb => rfl
    obtain ⟨I2, k1, k2, k3⟩ := s_pass1 (d := d) (J := J) hv hl hd hw hp hb (I a 0).toNat 0 (999998 - (I a 0).toNat) I (by omega) f0 (fun s hs hs2 => by
      have := (hl.2.2.2.2.2.2 s (by omega)).2.1
      omega)
    obtain ⟨I3, m1, m2⟩ := s_pass2 (d := d + 4) (J := J) (X := sumL (fun t => likeV I a (lawOf h I a) t (I (a + 1) t)) (I a 0).toNat) hv ha hd hn (fun s hs => (hl.2.2.2.2.2.2 s hs).1) hh hy (f := fun s => altV I a (lawOf h I a) s) (I a 0).toNat 0 (999997 - (I a 0).toNat - (I a 0).toNat) I2 (by omega) k1 k2
    refine ⟨I3, ?_, ?_⟩
    · unfold passW
      rw [if_pos c]
      exact m1
    · unfold passR
      rw [if_pos c, if_pos c, xB_s, yck (La_t ha), s_lawInForce ha (by have := hl.2.2.1; omega), kR_o]
      have e0 : ((0 : Nat) : Int) = 0 := rfl
      have k3' : lp (d + 4) 24 999999 27 [some (iR (some v)), some (iR (some a)), some (iR (lawOf h I a)), some (iI 0), some (iI 0), none] [] (st h I J) = lp (d + 4) 24 (999998 - (I a 0).toNat) 87 [some (iR (some v)), some (iR (some a)), none, some (iI (sumL (fun t => likeV I a (lawOf h I a) t (I (a + 1) t)) (I a 0).toNat)), some (iI 0), none] [] (st h I2 J) := by
        rw [← k3]
        congr 1
        omega
      have m2' : lp (d + 4) 24 (999998 - (I a 0).toNat) 87 [some (iR (some v)), some (iR (some a)), none, some (iI (sumL (fun t => likeV I a (lawOf h I a) t (I (a + 1) t)) (I a 0).toNat)), some (iI 0), none] [] (st h I2 J) = some (oI (sumL (fun t => likeV I a (lawOf h I a) t (I (a + 1) t)) (I a 0).toNat), st h I3 J) := by
        rw [← m2]
        congr 1
        omega
      exact k3'.trans m2'
  · refine ⟨I, ?_, ?_⟩
    · unfold passW
      rw [if_neg c]
      exact fun b hb => rfl
    · unfold passR
      rw [if_neg c, if_neg c]
end P46
