/-! A LAND copied: what is copied, what stays (by program, wip/whole/gen98m.py) -/
def CpL (I' I : Nat → Nat → Int) (a b : Nat) : Prop := (∀ q, q < a ∨ a + 10 < q → I' q = I q) ∧ (∀ i, I' a i = if i = 0 ∨ i = 11 ∨ i = 13 ∨ i = 14 then I b i else I a i) ∧ (∀ i, I' (a + 1) i = if i < 7 then I (b + 1) i else I (a + 1) i) ∧ (∀ i, I' (a + 2) i = if i < 7 then I (b + 2) i else I (a + 2) i) ∧ (∀ i, I' (a + 3) i = if i < 7 then I (b + 3) i else I (a + 3) i) ∧ (∀ i, I' (a + 4) i = if i < 7 then I (b + 4) i else I (a + 4) i) ∧ (∀ i, I' (a + 5) i = if i < 49 then I (b + 5) i else I (a + 5) i) ∧ (∀ i, I' (a + 6) i = if i < 49 then I (b + 6) i else I (a + 6) i) ∧ (∀ i, I' (a + 7) i = if i < 7 then I (b + 7) i else I (a + 7) i) ∧ (∀ i, I' (a + 8) i = if i < 3 then I (b + 8) i else I (a + 8) i) ∧ (∀ i, I' (a + 9) i = if i < 6 then I (b + 9) i else I (a + 9) i) ∧ (∀ i, I' (a + 10) i = if i < 6 then I (b + 10) i else I (a + 10) i)
section P98m
variable {d : Nat} {I I' J : Nat → Nat → Int} {a b : Nat} {h h' : IH} {K : Nat → Int} {LW : Nat → Nat × (Nat → Cls)} {own own' : Nat → Nat}
theorem l_cpF (hd : a + 11 < b ∨ b + 11 < a) : ∀ (k i n : Nat) (g : IH), i + k = 6 → ShLand g a → ShLand g b → (∀ j v, j < 6 → hR g (b + 11) j = some v → hT g v = 19 ∧ 3 ≤ v) → (∀ j, j < i → hR g (a + 11) j = hR g (b + 11) j) → ∃ g', ((hT g' = hT g ∧ hL g' = hL g ∧ hN g' = hN g ∧ hS g' = hS g) ∧ (∀ q, q ≠ a + 11 → hR g' q = hR g q) ∧ (∀ j, j < 6 → hR g' (a + 11) j = hR g (b + 11) j) ∧ (∀ j, 6 ≤ j → hR g' (a + 11) j = hR g (a + 11) j)) ∧ lp d 9 (n + k + 1) 170 [some (iR (some a)), some (iR (some b)), some (iI i)] [] (st g I J) = some (o0, st g' (up (up I a 13 (I b 13)) a 14 (I b 14)) J) := by
  intro k
  induction k with
  | zero =>
    intro i n g hk ha hb hv hR1
    have : i = 6 := by omega
    subst this
    refine ⟨g, ⟨⟨rfl, rfl, rfl, rfl⟩, fun q hq => rfl, hR1, fun _ _ => rfl⟩, ?_⟩
    rw [Nat.add_zero, e_La_copyFrom_170, if_neg (by omega), xB_s, ygI (La_t hb), ypI (La_t ha) (La_3 ha), xB_s, ygI (La_t hb), ypI (La_t ha) (La_3 ha), up_na (show b ≠ a by omega)]
  | succ k ih =>
    intro i n g hk ha hb hv hR1
    have a3 := La_3 ha
    have nr : ∀ q, q ≠ a + 11 → hR (sR g (upR (hR g) (a + 11) i (hR g (b + 11) i))) q = hR g q := fun q z => upR_na z
    have nb := nr (b + 11) (by omega)
    obtain ⟨g', ⟨⟨p1, p2, p3, p4⟩, p5, p6, p8⟩, p7⟩ := ih (i + 1) n (sR g (upR (hR g) (a + 11) i (hR g (b + 11) i))) (by omega) (La_R ha (by omega)) (La_R hb (by omega)) (fun j v jj z => by
      rw [nb] at z
      exact hv j v jj z) (fun j hj => by
      rw [nb]
      by_cases z : j = i
      · rw [z]
        exact upR_eq _ _ _ _
      · rw [show hR (sR g (upR (hR g) (a + 11) i (hR g (b + 11) i))) (a + 11) j = hR g (a + 11) j from upR_ni z]
        exact hR1 j (by omega))
    refine ⟨g', ⟨⟨p1, p2, p3, p4⟩, fun q hq => (p5 q hq).trans (nr q hq), fun j hj => (p6 j hj).trans (by rw [nb]), fun j hj => (p8 j hj).trans (show hR (sR g (upR (hR g) (a + 11) i (hR g (b + 11) i))) (a + 11) j = hR g (a + 11) j from upR_ni (by omega))⟩, ?_⟩
    have hs : ∀ o : Option Nat, (∀ v, o = some v → hT g v = 19 ∧ 3 ≤ v) → ∀ K : IH → Option IR, xsR (st g I J) (a + 11) (i : Int) o K = K (st (sR g (upR (hR g) (a + 11) i o)) I J) := by
      intro o ho K
      have hl : hL (st g I J) (a + 11) = 6 := La_l11 ha
      have ht : hT (st g I J) (a + 11) = 4 := La_t11 ha
      cases o with
      | none =>
        unfold xsR
        dsimp only
        rw [if_pos ⟨⟨Or.inl ht, by omega⟩, by omega, by rw [hl]; omega⟩]
        rfl
      | some v =>
        have hv2 := ho v rfl
        unfold xsR
        dsimp only
        rw [if_pos ⟨⟨Or.inl ⟨ht, hv2.1⟩, by omega, hv2.2⟩, by omega, by rw [hl]; omega⟩]
        rfl
    rw [show n + (k + 1) + 1 = (n + k + 1) + 1 by omega, e_La_copyFrom_170, if_pos (by omega), ygR (La_t ha) (La_r12 ha), xB_s, ygR (La_t hb) (La_r12 hb), xB_s, yaR (Or.inl (La_t11 hb)) (La_l11 hb) (by omega) (by omega), Int.toNat_natCast, xB_s, hs _ (fun v z => hv i v (by omega) z), wr_id (by omega) (by omega)]
    exact p7
theorem s_cpF {h : IH} (ha : ShLand h a) (hb : ShLand h b) (q1 : hT h 1 = 0) (q2 : hL h 1 = 3) (hd : a + 11 < b ∨ b + 11 < a) (hv : ∀ j v, j < 6 → hR h (b + 11) j = some v → hT h v = 19 ∧ 3 ≤ v) : ∃ h' I', ((hT h' = hT h ∧ hL h' = hL h ∧ hN h' = hN h ∧ hS h' = hS h) ∧ (∀ q, q ≠ a + 11 → hR h' q = hR h q) ∧ (∀ j, j < 6 → hR h' (a + 11) j = hR h (b + 11) j) ∧ (∀ j, 6 ≤ j → hR h' (a + 11) j = hR h (a + 11) j)) ∧ CpL I' I a b ∧ rn (d + 1) 9 [iR (some a), iR (some b)] (st h I J) = some (o0, st h' I' J) := by
  have a3 := La_3 ha
  have b3 := La_3 hb
  obtain ⟨g, g1, g2⟩ := l_cpF (d := d) (J := J) (I := (up (cpy (cpy (cpy (cpy (cpy (cpy (cpy (cpy (cpy (cpy (up I a 0 (I b 0)) (b + 1) 0 (a + 1) 0 7) (b + 2) 0 (a + 2) 0 7) (b + 3) 0 (a + 3) 0 7) (b + 4) 0 (a + 4) 0 7) (b + 5) 0 (a + 5) 0 49) (b + 6) 0 (a + 6) 0 49) (b + 7) 0 (a + 7) 0 7) (b + 8) 0 (a + 8) 0 3) (b + 9) 0 (a + 9) 0 6) (b + 10) 0 (a + 10) 0 6) a 11 ((cpy (cpy (cpy (cpy (cpy (cpy (cpy (cpy (cpy (cpy (up I a 0 (I b 0)) (b + 1) 0 (a + 1) 0 7) (b + 2) 0 (a + 2) 0 7) (b + 3) 0 (a + 3) 0 7) (b + 4) 0 (a + 4) 0 7) (b + 5) 0 (a + 5) 0 49) (b + 6) 0 (a + 6) 0 49) (b + 7) 0 (a + 7) 0 7) (b + 8) 0 (a + 8) 0 3) (b + 9) 0 (a + 9) 0 6) (b + 10) 0 (a + 10) 0 6) b 11))) hd 6 0 999991 h rfl ha hb hv (fun j hj => absurd hj (by omega))
  refine ⟨g, up (up (up (cpy (cpy (cpy (cpy (cpy (cpy (cpy (cpy (cpy (cpy (up I a 0 (I b 0)) (b + 1) 0 (a + 1) 0 7) (b + 2) 0 (a + 2) 0 7) (b + 3) 0 (a + 3) 0 7) (b + 4) 0 (a + 4) 0 7) (b + 5) 0 (a + 5) 0 49) (b + 6) 0 (a + 6) 0 49) (b + 7) 0 (a + 7) 0 7) (b + 8) 0 (a + 8) 0 3) (b + 9) 0 (a + 9) 0 6) (b + 10) 0 (a + 10) 0 6) a 11 ((cpy (cpy (cpy (cpy (cpy (cpy (cpy (cpy (cpy (cpy (up I a 0 (I b 0)) (b + 1) 0 (a + 1) 0 7) (b + 2) 0 (a + 2) 0 7) (b + 3) 0 (a + 3) 0 7) (b + 4) 0 (a + 4) 0 7) (b + 5) 0 (a + 5) 0 49) (b + 6) 0 (a + 6) 0 49) (b + 7) 0 (a + 7) 0 7) (b + 8) 0 (a + 8) 0 3) (b + 9) 0 (a + 9) 0 6) (b + 10) 0 (a + 10) 0 6) b 11)) a 13 ((up (cpy (cpy (cpy (cpy (cpy (cpy (cpy (cpy (cpy (cpy (up I a 0 (I b 0)) (b + 1) 0 (a + 1) 0 7) (b + 2) 0 (a + 2) 0 7) (b + 3) 0 (a + 3) 0 7) (b + 4) 0 (a + 4) 0 7) (b + 5) 0 (a + 5) 0 49) (b + 6) 0 (a + 6) 0 49) (b + 7) 0 (a + 7) 0 7) (b + 8) 0 (a + 8) 0 3) (b + 9) 0 (a + 9) 0 6) (b + 10) 0 (a + 10) 0 6) a 11 ((cpy (cpy (cpy (cpy (cpy (cpy (cpy (cpy (cpy (cpy (up I a 0 (I b 0)) (b + 1) 0 (a + 1) 0 7) (b + 2) 0 (a + 2) 0 7) (b + 3) 0 (a + 3) 0 7) (b + 4) 0 (a + 4) 0 7) (b + 5) 0 (a + 5) 0 49) (b + 6) 0 (a + 6) 0 49) (b + 7) 0 (a + 7) 0 7) (b + 8) 0 (a + 8) 0 3) (b + 9) 0 (a + 9) 0 6) (b + 10) 0 (a + 10) 0 6) b 11)) b 13)) a 14 ((up (cpy (cpy (cpy (cpy (cpy (cpy (cpy (cpy (cpy (cpy (up I a 0 (I b 0)) (b + 1) 0 (a + 1) 0 7) (b + 2) 0 (a + 2) 0 7) (b + 3) 0 (a + 3) 0 7) (b + 4) 0 (a + 4) 0 7) (b + 5) 0 (a + 5) 0 49) (b + 6) 0 (a + 6) 0 49) (b + 7) 0 (a + 7) 0 7) (b + 8) 0 (a + 8) 0 3) (b + 9) 0 (a + 9) 0 6) (b + 10) 0 (a + 10) 0 6) a 11 ((cpy (cpy (cpy (cpy (cpy (cpy (cpy (cpy (cpy (cpy (up I a 0 (I b 0)) (b + 1) 0 (a + 1) 0 7) (b + 2) 0 (a + 2) 0 7) (b + 3) 0 (a + 3) 0 7) (b + 4) 0 (a + 4) 0 7) (b + 5) 0 (a + 5) 0 49) (b + 6) 0 (a + 6) 0 49) (b + 7) 0 (a + 7) 0 7) (b + 8) 0 (a + 8) 0 3) (b + 9) 0 (a + 9) 0 6) (b + 10) 0 (a + 10) 0 6) b 11)) b 14), g1, ?_, ?_⟩
  rotate_left
  · rw [r_La_copyFrom, e_La_copyFrom, xB_s, ygI (La_t hb), ypI (La_t ha) a3, xB_s, ygR (La_t hb) (La_r1 hb), ygR (La_t ha) (La_r1 ha), ycpv (i := 0) (j := 0) (c := 7) (x := 0) (y := 0) (La_t1 hb) (La_t1 ha) (by omega) (by omega) (by omega) (La_l1 hb) (La_l1 ha) rfl rfl (show (7 : Int) = ((7 : Nat) : Int) from rfl) (by omega) (by omega), xB_s, ygR (La_t hb) (La_r2 hb), ygR (La_t ha) (La_r2 ha), ycpv (i := 0) (j := 0) (c := 7) (x := 0) (y := 0) (La_t2 hb) (La_t2 ha) (by omega) (by omega) (by omega) (La_l2 hb) (La_l2 ha) rfl rfl (show (7 : Int) = ((7 : Nat) : Int) from rfl) (by omega) (by omega), xB_s, ygR (La_t hb) (La_r3 hb), ygR (La_t ha) (La_r3 ha), ycpv (i := 0) (j := 0) (c := 7) (x := 0) (y := 0) (La_t3 hb) (La_t3 ha) (by omega) (by omega) (by omega) (La_l3 hb) (La_l3 ha) rfl rfl (show (7 : Int) = ((7 : Nat) : Int) from rfl) (by omega) (by omega), xB_s, ygR (La_t hb) (La_r4 hb), ygR (La_t ha) (La_r4 ha), ycpv (i := 0) (j := 0) (c := 7) (x := 0) (y := 0) (La_t4 hb) (La_t4 ha) (by omega) (by omega) (by omega) (La_l4 hb) (La_l4 ha) rfl rfl (show (7 : Int) = ((7 : Nat) : Int) from rfl) (by omega) (by omega), xB_s, ygR (La_t hb) (La_r5 hb), ygR (La_t ha) (La_r5 ha), ycpv (i := 0) (j := 0) (c := 49) (x := 0) (y := 0) (La_t5 hb) (La_t5 ha) (by omega) (by omega) (by omega) (La_l5 hb) (La_l5 ha) rfl rfl (show (49 : Int) = ((49 : Nat) : Int) from rfl) (by omega) (by omega), xB_s, ygR (La_t hb) (La_r6 hb), ygR (La_t ha) (La_r6 ha), ycpv (i := 0) (j := 0) (c := 49) (x := 0) (y := 0) (La_t6 hb) (La_t6 ha) (by omega) (by omega) (by omega) (La_l6 hb) (La_l6 ha) rfl rfl (show (49 : Int) = ((49 : Nat) : Int) from rfl) (by omega) (by omega), xB_s, ygR (La_t hb) (La_r7 hb), ygR (La_t ha) (La_r7 ha), ycpv (i := 0) (j := 0) (c := 7) (x := 0) (y := 0) (La_t7 hb) (La_t7 ha) (by omega) (by omega) (by omega) (La_l7 hb) (La_l7 ha) rfl rfl (show (7 : Int) = ((7 : Nat) : Int) from rfl) (by omega) (by omega), e_La_copyFrom_113, xB_s, ygR (La_t hb) (La_r8 hb), ygR (La_t ha) (La_r8 ha), yle (show hT h 1 < 6 by rw [q1]; decide) q2 (by omega), ycpv (i := 0) (j := 0) (c := 3) (x := 0) (y := 0) (La_t8 hb) (La_t8 ha) (by omega) (by omega) (by omega) (La_l8 hb) (La_l8 ha) rfl rfl (show (((3 : Nat) : Int) : Int) = ((3 : Nat) : Int) from rfl) (by omega) (by omega), xB_s, ygR (La_t hb) (La_r9 hb), ygR (La_t ha) (La_r9 ha), ycpv (i := 0) (j := 0) (c := 6) (x := 0) (y := 0) (La_t9 hb) (La_t9 ha) (by omega) (by omega) (by omega) (La_l9 hb) (La_l9 ha) rfl rfl (show (6 : Int) = ((6 : Nat) : Int) from rfl) (by omega) (by omega), xB_s, ygR (La_t hb) (La_r10 hb), ygR (La_t ha) (La_r10 ha), ycpv (i := 0) (j := 0) (c := 6) (x := 0) (y := 0) (La_t10 hb) (La_t10 ha) (by omega) (by omega) (by omega) (La_l10 hb) (La_l10 ha) rfl rfl (show (6 : Int) = ((6 : Nat) : Int) from rfl) (by omega) (by omega), xB_s, ygI (La_t hb), ypI (La_t ha) a3]
    exact g2
  · refine ⟨fun q hq => ?_, fun i => ?_, fun i => ?_, fun i => ?_, fun i => ?_, fun i => ?_, fun i => ?_, fun i => ?_, fun i => ?_, fun i => ?_, fun i => ?_, fun i => ?_⟩
    · simp (disch := omega) only [up_na, up_ni, up_eq, cpy_n]
    · have nb : b ≠ a := by omega
      by_cases c14 : i = 14
      · subst c14
        rw [if_pos (by omega), up_eq]
        simp (disch := omega) only [up_na, cpy_n]
      by_cases c13 : i = 13
      · subst c13
        rw [if_pos (by omega), up_ni (by omega), up_eq]
        simp (disch := omega) only [up_na, cpy_n]
      by_cases c11 : i = 11
      · subst c11
        rw [if_pos (by omega), up_ni (by omega), up_ni (by omega), up_eq]
        simp (disch := omega) only [up_na, cpy_n]
      by_cases c0 : i = 0
      · subst c0
        rw [if_pos (by omega), up_ni (by omega), up_ni (by omega), up_ni (by omega)]
        simp (disch := omega) only [cpy_n]
        rw [up_eq]
      · rw [if_neg (by omega), up_ni c14, up_ni c13, up_ni c11]
        simp (disch := omega) only [cpy_n]
        rw [up_ni c0]
    · by_cases c : i < 7
      · rw [if_pos c]
        simp (disch := omega) only [up_na, up_ni, up_eq, cpy_n, cpy_e, Nat.zero_add, Nat.sub_zero]
      · rw [if_neg c]
        simp (disch := omega) only [up_na, up_ni, up_eq, cpy_n, cpy_of]
    · by_cases c : i < 7
      · rw [if_pos c]
        simp (disch := omega) only [up_na, up_ni, up_eq, cpy_n, cpy_e, Nat.zero_add, Nat.sub_zero]
      · rw [if_neg c]
        simp (disch := omega) only [up_na, up_ni, up_eq, cpy_n, cpy_of]
    · by_cases c : i < 7
      · rw [if_pos c]
        simp (disch := omega) only [up_na, up_ni, up_eq, cpy_n, cpy_e, Nat.zero_add, Nat.sub_zero]
      · rw [if_neg c]
        simp (disch := omega) only [up_na, up_ni, up_eq, cpy_n, cpy_of]
    · by_cases c : i < 7
      · rw [if_pos c]
        simp (disch := omega) only [up_na, up_ni, up_eq, cpy_n, cpy_e, Nat.zero_add, Nat.sub_zero]
      · rw [if_neg c]
        simp (disch := omega) only [up_na, up_ni, up_eq, cpy_n, cpy_of]
    · by_cases c : i < 49
      · rw [if_pos c]
        simp (disch := omega) only [up_na, up_ni, up_eq, cpy_n, cpy_e, Nat.zero_add, Nat.sub_zero]
      · rw [if_neg c]
        simp (disch := omega) only [up_na, up_ni, up_eq, cpy_n, cpy_of]
    · by_cases c : i < 49
      · rw [if_pos c]
        simp (disch := omega) only [up_na, up_ni, up_eq, cpy_n, cpy_e, Nat.zero_add, Nat.sub_zero]
      · rw [if_neg c]
        simp (disch := omega) only [up_na, up_ni, up_eq, cpy_n, cpy_of]
    · by_cases c : i < 7
      · rw [if_pos c]
        simp (disch := omega) only [up_na, up_ni, up_eq, cpy_n, cpy_e, Nat.zero_add, Nat.sub_zero]
      · rw [if_neg c]
        simp (disch := omega) only [up_na, up_ni, up_eq, cpy_n, cpy_of]
    · by_cases c : i < 3
      · rw [if_pos c]
        simp (disch := omega) only [up_na, up_ni, up_eq, cpy_n, cpy_e, Nat.zero_add, Nat.sub_zero]
      · rw [if_neg c]
        simp (disch := omega) only [up_na, up_ni, up_eq, cpy_n, cpy_of]
    · by_cases c : i < 6
      · rw [if_pos c]
        simp (disch := omega) only [up_na, up_ni, up_eq, cpy_n, cpy_e, Nat.zero_add, Nat.sub_zero]
      · rw [if_neg c]
        simp (disch := omega) only [up_na, up_ni, up_eq, cpy_n, cpy_of]
    · by_cases c : i < 6
      · rw [if_pos c]
        simp (disch := omega) only [up_na, up_ni, up_eq, cpy_n, cpy_e, Nat.zero_add, Nat.sub_zero]
      · rw [if_neg c]
        simp (disch := omega) only [up_na, up_ni, up_eq, cpy_n, cpy_of]
/-- a copy is as the LAND it is of -/
theorem RL.copy (r : RL h I b K LW) (c : CpL I' I a b) (l : LdR I a) (hab : a + 11 < b ∨ b + 11 < a) (hR1 : ∀ j, j < 6 → hR h' (a + 11) j = hR h (b + 11) j) (hk : K 185 ≤ 6) (ht : ∀ j x, j < 6 → hR h (b + 11) j = some x → Sm h h' I I' x (x + 6)) (h11 : I' (a + 11) = I (a + 11)) : RL h' I' a K LW := by
  obtain ⟨c0, ca, c1, c2, c3, c4, c5, c6, c7, c8, c9, c10⟩ := c
  obtain ⟨r1, r2, ⟨r3, r4, r5⟩, ⟨r6, r7, r8⟩, ⟨r9, r10⟩, ⟨r11, r12, r13⟩, r14, r15, r16, r17⟩ := r
  obtain ⟨l1, l2, l3, l4⟩ := l
  refine ⟨by rw [ca, if_pos (by omega)]; exact r1, fun t q => by rw [c1, c2, if_pos q, if_pos q]; exact r2 t q, ⟨fun s q => by rw [c3, c4, if_pos q, if_pos q]; exact r3 s q, fun i q => by rw [c5, c6, if_pos q, if_pos q]; exact r4 i q, fun x y hx hy => by rw [c7, if_pos hx]; exact r5 x y hx hy⟩, ⟨by rw [c8, if_pos (by omega)]; exact r6, by rw [c8, if_pos (by omega)]; exact r7, by rw [c8, if_pos (by omega)]; exact r8⟩, ⟨by rw [ca, if_pos (by omega)]; exact r9, fun i q => by rw [c9, c10, if_pos q, if_pos q]; exact r10 i q⟩, ⟨by rw [ca, if_pos (by omega)]; exact r11, by rw [ca, if_pos (by omega)]; exact r12, fun j hj => ?_⟩, fun q q1 q2 k => ?_, fun k => ?_, fun k => ?_, fun k => ?_⟩
  · obtain ⟨x, x1, x2, x3⟩ := r13 j hj
    exact ⟨x, by rw [hR1 j (by omega)]; exact x1, x2, x3.tr (ht j x (by omega) x1)⟩
  · have e : q = a ∨ q = a + 1 ∨ q = a + 2 ∨ q = a + 3 ∨ q = a + 4 ∨ q = a + 5 ∨ q = a + 6 ∨ q = a + 7 ∨ q = a + 8 ∨ q = a + 9 ∨ q = a + 10 ∨ q = a + 11 := by omega
    rcases e with rfl | rfl | rfl | rfl | rfl | rfl | rfl | rfl | rfl | rfl | rfl | rfl
    · rw [ca]
      split
      · exact r14 b (by omega) (by omega) k
      · exact l1 _ (by omega) (by omega) k
    · rw [c1]
      split
      · exact r14 (b + 1) (by omega) (by omega) k
      · exact l1 _ (by omega) (by omega) k
    · rw [c2]
      split
      · exact r14 (b + 2) (by omega) (by omega) k
      · exact l1 _ (by omega) (by omega) k
    · rw [c3]
      split
      · exact r14 (b + 3) (by omega) (by omega) k
      · exact l1 _ (by omega) (by omega) k
    · rw [c4]
      split
      · exact r14 (b + 4) (by omega) (by omega) k
      · exact l1 _ (by omega) (by omega) k
    · rw [c5]
      split
      · exact r14 (b + 5) (by omega) (by omega) k
      · exact l1 _ (by omega) (by omega) k
    · rw [c6]
      split
      · exact r14 (b + 6) (by omega) (by omega) k
      · exact l1 _ (by omega) (by omega) k
    · rw [c7]
      split
      · exact r14 (b + 7) (by omega) (by omega) k
      · exact l1 _ (by omega) (by omega) k
    · rw [c8]
      split
      · exact r14 (b + 8) (by omega) (by omega) k
      · exact l1 _ (by omega) (by omega) k
    · rw [c9]
      split
      · exact r14 (b + 9) (by omega) (by omega) k
      · exact l1 _ (by omega) (by omega) k
    · rw [c10]
      split
      · exact r14 (b + 10) (by omega) (by omega) k
      · exact l1 _ (by omega) (by omega) k
    · rw [h11]
      exact l1 _ (by omega) (by omega) k
  · rw [c3]
    split
    · exact r15 k
    · exact l2 k
  · rw [c5]
    split
    · exact r16 k
    · exact l3 k
  · rw [c7]
    split
    · exact r17 k
    · exact l4 k
theorem RL.ldr (r : RL h I a K LW) : LdR I a := r.2.2.2.2.2.2
theorem Sm.of {lo hi : Nat} (s : ∀ b, lo ≤ b → b ≤ hi → hT h' b = hT h b ∧ hL h' b = hL h b ∧ hR h' b = hR h b ∧ I' b = I b) : Sm h h' I I' lo hi := s
theorem ShM_R {h : IH} (m : ShM h 88) (e : hT h' = hT h ∧ hL h' = hL h) (er : hR h' 88 = hR h 88) : ShM h' 88 := ShM_tr m (fun b _ _ => ⟨by rw [e.1], by rw [e.2]⟩) er
theorem ShLand.R {h : IH} (l : ShLand h a) (e : hT h' = hT h ∧ hL h' = hL h) (er : hR h' a = hR h a) : ShLand h' a := by
  obtain ⟨g1, g2, g3, g4, g5⟩ := l
  exact ⟨g1, by rw [e.1]; exact g2, by rw [er]; exact g3, by rw [e.1]; exact g4, by rw [e.2]; exact g5⟩
end P98m
