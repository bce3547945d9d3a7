/-! A LAND copied from another one (by program, wip/whole/gen44.py) -/
theorem cpy_e {I : Nat → Nat → Int} {a i b j n k : Nat} (h1 : j ≤ k) (h2 : k < j + n) : cpy I a i b j n b k = I a (i + (k - j)) := if_pos ⟨rfl, h1, h2⟩
theorem La_R {h : IH} {a x i : Nat} {o : Option Nat} (hs : ShLand h a) (z : a ≠ x) : ShLand (sR h (upR (hR h) x i o)) a := by
  obtain ⟨g1, g2, g3, g4, g5⟩ := hs
  refine ⟨g1, g2, ?_, g4, g5⟩
  rw [show hR (sR h (upR (hR h) x i o)) a = hR h a from upR_na z]
  exact g3
section P44
variable {d : Nat} {I J : Nat → Nat → Int} {a b : Nat}
theorem l_copyF (hd : a + 11 < b ∨ b + 11 < a) : ∀ (k i n : Nat) (g : IH), i + k = 6 → ShLand g a → ShLand g b → (∀ j v, hR g (b + 11) j = some v → hT g v = 19 ∧ 3 ≤ v) → (∀ j, j < i → hR g (a + 11) j = hR g (b + 11) j) → ∃ g', ((hT g' = hT g ∧ hL g' = hL g ∧ hN g' = hN g ∧ hS g' = hS g) ∧ (∀ q, q ≠ a + 11 → hR g' q = hR g q) ∧ (∀ j, j < 6 → hR g' (a + 11) j = hR g (b + 11) j)) ∧ lp d 9 (n + k + 1) 170 [some (iR (some a)), some (iR (some b)), some (iI i)] [] (st g I J) = some (o0, st g' (up (up I a 13 (I b 13)) a 14 (I b 14)) J) := by
  intro k
  induction k with
  | zero =>
    intro i n g hk ha hb hv hR1
    have : i = 6 := by omega
    subst this
    refine ⟨g, ⟨⟨rfl, rfl, rfl, rfl⟩, fun q hq => rfl, hR1⟩, ?_⟩
    rw [Nat.add_zero, e_La_copyFrom_170, if_neg (by omega), xB_s, ygI (La_t hb), ypI (La_t ha) (La_3 ha), xB_s, ygI (La_t hb), ypI (La_t ha) (La_3 ha), up_na (show b ≠ a by omega)]
  | succ k ih =>
    intro i n g hk ha hb hv hR1
    have a3 := La_3 ha
    have nr : ∀ q, q ≠ a + 11 → hR (sR g (upR (hR g) (a + 11) i (hR g (b + 11) i))) q = hR g q := fun q z => upR_na z
    have nb := nr (b + 11) (by omega)
    obtain ⟨g', ⟨⟨p1, p2, p3, p4⟩, p5, p6⟩, p7⟩ := ih (i + 1) n (sR g (upR (hR g) (a + 11) i (hR g (b + 11) i))) (by omega) (La_R ha (by omega)) (La_R hb (by omega)) (fun j v z => by
      rw [nb] at z
      exact hv j v z) (fun j hj => by
      rw [nb]
      by_cases z : j = i
      · rw [z]
        exact upR_eq _ _ _ _
      · rw [show hR (sR g (upR (hR g) (a + 11) i (hR g (b + 11) i))) (a + 11) j = hR g (a + 11) j from upR_ni z]
        exact hR1 j (by omega))
    refine ⟨g', ⟨⟨p1, p2, p3, p4⟩, fun q hq => (p5 q hq).trans (nr q hq), fun j hj => (p6 j hj).trans (by rw [nb])⟩, ?_⟩
    have hs : ∀ o : Option Nat, (∀ v, o = some v → hT g v = 19 ∧ 3 ≤ v) → ∀ K : IH → Option IR, xsR (st g I J) (a + 11) (i : Int) o K = K (st (sR g (upR (hR g) (a + 11) i o)) I J) := by
      intro o ho K
      have hl : hL (st g I J) (a + 11) = 6 := La_l11 ha
      have ht : hT (st g I J) (a + 11) = 4 := La_t11 ha
      cases o with
      | none =>
        unfold xsR
        dsimp only
        rw [if_pos ⟨⟨Or.inl ht, by omega⟩, by omega, by rw [hl]; omega⟩]
        rfl
      | some v =>
        have hv2 := ho v rfl
        unfold xsR
        dsimp only
        rw [if_pos ⟨⟨Or.inl ⟨ht, hv2.1⟩, by omega, hv2.2⟩, by omega, by rw [hl]; omega⟩]
        rfl
    rw [show n + (k + 1) + 1 = (n + k + 1) + 1 by omega, e_La_copyFrom_170, if_pos (by omega), ygR (La_t ha) (La_r12 ha), xB_s, ygR (La_t hb) (La_r12 hb), xB_s, yaR (Or.inl (La_t11 hb)) (La_l11 hb) (by omega) (by omega), Int.toNat_natCast, xB_s, hs _ (fun v z => hv i v z), wr_id (by omega) (by omega)]
    exact p7
theorem s_copyFrom {h : IH} (ha : ShLand h a) (hb : ShLand h b) (q1 : hT h 1 = 0) (q2 : hL h 1 = 3) (hd : a + 11 < b ∨ b + 11 < a) (hv : ∀ j v, hR h (b + 11) j = some v → hT h v = 19 ∧ 3 ≤ v) : ∃ h' I', ((hT h' = hT h ∧ hL h' = hL h ∧ hN h' = hN h ∧ hS h' = hS h) ∧ (∀ q, q ≠ a + 11 → hR h' q = hR h q) ∧ (∀ j, j < 6 → hR h' (a + 11) j = hR h (b + 11) j)) ∧ ((∀ q, q < a ∨ a + 10 < q → I' q = I q) ∧ (I' a 0 = I b 0 ∧ I' a 11 = I b 11 ∧ I' a 13 = I b 13 ∧ I' a 14 = I b 14) ∧ (∀ i, i < 7 → I' (a + 1) i = I (b + 1) i) ∧ (∀ i, i < 7 → I' (a + 2) i = I (b + 2) i) ∧ (∀ i, i < 7 → I' (a + 3) i = I (b + 3) i) ∧ (∀ i, i < 7 → I' (a + 4) i = I (b + 4) i) ∧ (∀ i, i < 49 → I' (a + 5) i = I (b + 5) i) ∧ (∀ i, i < 49 → I' (a + 6) i = I (b + 6) i) ∧ (∀ i, i < 7 → I' (a + 7) i = I (b + 7) i) ∧ (∀ i, i < 3 → I' (a + 8) i = I (b + 8) i) ∧ (∀ i, i < 6 → I' (a + 9) i = I (b + 9) i) ∧ (∀ i, i < 6 → I' (a + 10) i = I (b + 10) i)) ∧ rn (d + 1) 9 [iR (some a), iR (some b)] (st h I J) = some (o0, st h' I' J) := by
  have a3 := La_3 ha
  have b3 := La_3 hb
  obtain ⟨g, g1, g2⟩ := l_copyF (d := d) (J := J) (I := (up (cpy (cpy (cpy (cpy (cpy (cpy (cpy (cpy (cpy (cpy (up I a 0 (I b 0)) (b + 1) 0 (a + 1) 0 7) (b + 2) 0 (a + 2) 0 7) (b + 3) 0 (a + 3) 0 7) (b + 4) 0 (a + 4) 0 7) (b + 5) 0 (a + 5) 0 49) (b + 6) 0 (a + 6) 0 49) (b + 7) 0 (a + 7) 0 7) (b + 8) 0 (a + 8) 0 3) (b + 9) 0 (a + 9) 0 6) (b + 10) 0 (a + 10) 0 6) a 11 ((cpy (cpy (cpy (cpy (cpy (cpy (cpy (cpy (cpy (cpy (up I a 0 (I b 0)) (b + 1) 0 (a + 1) 0 7) (b + 2) 0 (a + 2) 0 7) (b + 3) 0 (a + 3) 0 7) (b + 4) 0 (a + 4) 0 7) (b + 5) 0 (a + 5) 0 49) (b + 6) 0 (a + 6) 0 49) (b + 7) 0 (a + 7) 0 7) (b + 8) 0 (a + 8) 0 3) (b + 9) 0 (a + 9) 0 6) (b + 10) 0 (a + 10) 0 6) b 11))) hd 6 0 999991 h rfl ha hb hv (fun j hj => absurd hj (by omega))
  refine ⟨g, up (up (up (cpy (cpy (cpy (cpy (cpy (cpy (cpy (cpy (cpy (cpy (up I a 0 (I b 0)) (b + 1) 0 (a + 1) 0 7) (b + 2) 0 (a + 2) 0 7) (b + 3) 0 (a + 3) 0 7) (b + 4) 0 (a + 4) 0 7) (b + 5) 0 (a + 5) 0 49) (b + 6) 0 (a + 6) 0 49) (b + 7) 0 (a + 7) 0 7) (b + 8) 0 (a + 8) 0 3) (b + 9) 0 (a + 9) 0 6) (b + 10) 0 (a + 10) 0 6) a 11 ((cpy (cpy (cpy (cpy (cpy (cpy (cpy (cpy (cpy (cpy (up I a 0 (I b 0)) (b + 1) 0 (a + 1) 0 7) (b + 2) 0 (a + 2) 0 7) (b + 3) 0 (a + 3) 0 7) (b + 4) 0 (a + 4) 0 7) (b + 5) 0 (a + 5) 0 49) (b + 6) 0 (a + 6) 0 49) (b + 7) 0 (a + 7) 0 7) (b + 8) 0 (a + 8) 0 3) (b + 9) 0 (a + 9) 0 6) (b + 10) 0 (a + 10) 0 6) b 11)) a 13 ((up (cpy (cpy (cpy (cpy (cpy (cpy (cpy (cpy (cpy (cpy (up I a 0 (I b 0)) (b + 1) 0 (a + 1) 0 7) (b + 2) 0 (a + 2) 0 7) (b + 3) 0 (a + 3) 0 7) (b + 4) 0 (a + 4) 0 7) (b + 5) 0 (a + 5) 0 49) (b + 6) 0 (a + 6) 0 49) (b + 7) 0 (a + 7) 0 7) (b + 8) 0 (a + 8) 0 3) (b + 9) 0 (a + 9) 0 6) (b + 10) 0 (a + 10) 0 6) a 11 ((cpy (cpy (cpy (cpy (cpy (cpy (cpy (cpy (cpy (cpy (up I a 0 (I b 0)) (b + 1) 0 (a + 1) 0 7) (b + 2) 0 (a + 2) 0 7) (b + 3) 0 (a + 3) 0 7) (b + 4) 0 (a + 4) 0 7) (b + 5) 0 (a + 5) 0 49) (b + 6) 0 (a + 6) 0 49) (b + 7) 0 (a + 7) 0 7) (b + 8) 0 (a + 8) 0 3) (b + 9) 0 (a + 9) 0 6) (b + 10) 0 (a + 10) 0 6) b 11)) b 13)) a 14 ((up (cpy (cpy (cpy (cpy (cpy (cpy (cpy (cpy (cpy (cpy (up I a 0 (I b 0)) (b + 1) 0 (a + 1) 0 7) (b + 2) 0 (a + 2) 0 7) (b + 3) 0 (a + 3) 0 7) (b + 4) 0 (a + 4) 0 7) (b + 5) 0 (a + 5) 0 49) (b + 6) 0 (a + 6) 0 49) (b + 7) 0 (a + 7) 0 7) (b + 8) 0 (a + 8) 0 3) (b + 9) 0 (a + 9) 0 6) (b + 10) 0 (a + 10) 0 6) a 11 ((cpy (cpy (cpy (cpy (cpy (cpy (cpy (cpy (cpy (cpy (up I a 0 (I b 0)) (b + 1) 0 (a + 1) 0 7) (b + 2) 0 (a + 2) 0 7) (b + 3) 0 (a + 3) 0 7) (b + 4) 0 (a + 4) 0 7) (b + 5) 0 (a + 5) 0 49) (b + 6) 0 (a + 6) 0 49) (b + 7) 0 (a + 7) 0 7) (b + 8) 0 (a + 8) 0 3) (b + 9) 0 (a + 9) 0 6) (b + 10) 0 (a + 10) 0 6) b 11)) b 14), g1, ?_, ?_⟩
  rotate_left
  · rw [r_La_copyFrom, e_La_copyFrom, xB_s, ygI (La_t hb), ypI (La_t ha) a3, xB_s, ygR (La_t hb) (La_r1 hb), ygR (La_t ha) (La_r1 ha), ycpv (i := 0) (j := 0) (c := 7) (x := 0) (y := 0) (La_t1 hb) (La_t1 ha) (by omega) (by omega) (by omega) (La_l1 hb) (La_l1 ha) rfl rfl (show (7 : Int) = ((7 : Nat) : Int) from rfl) (by omega) (by omega), xB_s, ygR (La_t hb) (La_r2 hb), ygR (La_t ha) (La_r2 ha), ycpv (i := 0) (j := 0) (c := 7) (x := 0) (y := 0) (La_t2 hb) (La_t2 ha) (by omega) (by omega) (by omega) (La_l2 hb) (La_l2 ha) rfl rfl (show (7 : Int) = ((7 : Nat) : Int) from rfl) (by omega) (by omega), xB_s, ygR (La_t hb) (La_r3 hb), ygR (La_t ha) (La_r3 ha), ycpv (i := 0) (j := 0) (c := 7) (x := 0) (y := 0) (La_t3 hb) (La_t3 ha) (by omega) (by omega) (by omega) (La_l3 hb) (La_l3 ha) rfl rfl (show (7 : Int) = ((7 : Nat) : Int) from rfl) (by omega) (by omega), xB_s, ygR (La_t hb) (La_r4 hb), ygR (La_t ha) (La_r4 ha), ycpv (i := 0) (j := 0) (c := 7) (x := 0) (y := 0) (La_t4 hb) (La_t4 ha) (by omega) (by omega) (by omega) (La_l4 hb) (La_l4 ha) rfl rfl (show (7 : Int) = ((7 : Nat) : Int) from rfl) (by omega) (by omega), xB_s, ygR (La_t hb) (La_r5 hb), ygR (La_t ha) (La_r5 ha), ycpv (i := 0) (j := 0) (c := 49) (x := 0) (y := 0) (La_t5 hb) (La_t5 ha) (by omega) (by omega) (by omega) (La_l5 hb) (La_l5 ha) rfl rfl (show (49 : Int) = ((49 : Nat) : Int) from rfl) (by omega) (by omega), xB_s, ygR (La_t hb) (La_r6 hb), ygR (La_t ha) (La_r6 ha), ycpv (i := 0) (j := 0) (c := 49) (x := 0) (y := 0) (La_t6 hb) (La_t6 ha) (by omega) (by omega) (by omega) (La_l6 hb) (La_l6 ha) rfl rfl (show (49 : Int) = ((49 : Nat) : Int) from rfl) (by omega) (by omega), xB_s, ygR (La_t hb) (La_r7 hb), ygR (La_t ha) (La_r7 ha), ycpv (i := 0) (j := 0) (c := 7) (x := 0) (y := 0) (La_t7 hb) (La_t7 ha) (by omega) (by omega) (by omega) (La_l7 hb) (La_l7 ha) rfl rfl (show (7 : Int) = ((7 : Nat) : Int) from rfl) (by omega) (by omega), e_La_copyFrom_113, xB_s, ygR (La_t hb) (La_r8 hb), ygR (La_t ha) (La_r8 ha), yle (show hT h 1 < 6 by rw [q1]; decide) q2 (by omega), ycpv (i := 0) (j := 0) (c := 3) (x := 0) (y := 0) (La_t8 hb) (La_t8 ha) (by omega) (by omega) (by omega) (La_l8 hb) (La_l8 ha) rfl rfl (show (((3 : Nat) : Int) : Int) = ((3 : Nat) : Int) from rfl) (by omega) (by omega), xB_s, ygR (La_t hb) (La_r9 hb), ygR (La_t ha) (La_r9 ha), ycpv (i := 0) (j := 0) (c := 6) (x := 0) (y := 0) (La_t9 hb) (La_t9 ha) (by omega) (by omega) (by omega) (La_l9 hb) (La_l9 ha) rfl rfl (show (6 : Int) = ((6 : Nat) : Int) from rfl) (by omega) (by omega), xB_s, ygR (La_t hb) (La_r10 hb), ygR (La_t ha) (La_r10 ha), ycpv (i := 0) (j := 0) (c := 6) (x := 0) (y := 0) (La_t10 hb) (La_t10 ha) (by omega) (by omega) (by omega) (La_l10 hb) (La_l10 ha) rfl rfl (show (6 : Int) = ((6 : Nat) : Int) from rfl) (by omega) (by omega), xB_s, ygI (La_t hb), ypI (La_t ha) a3]
    exact g2
  · refine ⟨fun q hq => ?_, ⟨?_, ?_, ?_, ?_⟩, fun i hi => ?_, fun i hi => ?_, fun i hi => ?_, fun i hi => ?_, fun i hi => ?_, fun i hi => ?_, fun i hi => ?_, fun i hi => ?_, fun i hi => ?_, fun i hi => ?_⟩
    all_goals simp (disch := omega) only [up_na, up_ni, up_eq, cpy_n, cpy_e, Nat.zero_add, Nat.sub_zero]
end P44
