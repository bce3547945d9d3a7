/-! centuries: years by draws, on any LAND; by the reference (by program, wip/whole/gen98r.py) -/
def AnyOk (h : IH) (I : Nat → Nat → Int) (a : Nat) (K : Nat → Int) (LW : Nat → Nat × (Nat → Cls)) : Prop := ShT h ∧ ShLand h a ∧ RL h I a K LW ∧ KOk K ∧ LwA K LW ∧ ∀ j x, j < 6 → hR h (a + 11) j = some x → 118 ≤ x
def nd (x : Int) : Int := (x * 1103 + 12345) % 1000003
noncomputable def actK (K : Nat → Int) (L : LwV) (n x1 x2 x3 x4 : Int) : Nat → Int := if x4 % 4 < 2 then (if 0 ≤ swapV K L (x1 % n) (x2 % n) then swapF K (x1 % n) (x2 % n) else K) else if x4 % 4 = 2 then (if 0 ≤ roundV K L (x1 % n) (x2 % n) (x3 % n) then roundF K (x1 % n) (x2 % n) (x3 % n) else K) else K
noncomputable def yrK (K : Nat → Int) (L : LwV) (n : Nat) (x : Int) : Nat → Int := passK (actK K L n (nd x) (nd (nd x)) (nd (nd (nd x))) (nd (nd (nd (nd x))))) L n
noncomputable def cenK (L : LwV) (n : Nat) : (Nat → Int) → Int → Nat → Nat → Int
  | K, _, 0 => K
  | K, x, q + 1 => if K 112 < 999 then cenK L n (yrK K L n x) (nd (nd (nd (nd x)))) q else K
def CK (K : Nat → Int) (LW : Nat → Nat × (Nat → Cls)) (L : LwV) (n : Nat) : Prop := KOk K ∧ LwA K LW ∧ lvOf K LW = L ∧ K 183 = (n : Int)
section P98r
variable {h h' : IH} {I I' J : Nat → Nat → Int} {a d n : Nat} {K K' : Nat → Int} {LW : Nat → Nat × (Nat → Cls)} {L : LwV}
theorem nd_in {x : Int} : 0 ≤ nd x ∧ nd x < 1000003 := by
  unfold nd
  omega
theorem swapF_hi {x y : Int} (h1 : x < 7) (h2 : y < 7) {i : Nat} (hi : 7 ≤ i) : swapF K x y i = K i := by
  unfold swapF
  rw [upF_n (by omega), upF_n (by omega)]
theorem roundF_hi {x y z : Int} (h1 : x < 7) (h2 : y < 7) (h3 : z < 7) {i : Nat} (hi : 7 ≤ i) : roundF K x y z i = K i := by
  unfold roundF
  rw [upF_n (by omega), upF_n (by omega), upF_n (by omega)]
theorem swapF_okI (kk : KOk K) {x y : Int} (h1 : 0 ≤ x ∧ x < K 183) (h2 : 0 ≤ y ∧ y < K 183) (_ : x ≠ y) : KOk (swapF K x y) := by
  obtain ⟨x, rfl⟩ : ∃ x' : Nat, x = (x' : Int) := ⟨x.toNat, by omega⟩
  obtain ⟨y, rfl⟩ : ∃ y' : Nat, y = (y' : Int) := ⟨y.toNat, by omega⟩
  exact swapF_ok kk h1.2 h2.2
theorem roundF_okI (kk : KOk K) {x y z : Int} (h1 : 0 ≤ x ∧ x < K 183) (h2 : 0 ≤ y ∧ y < K 183) (h3 : 0 ≤ z ∧ z < K 183) (d1 : x ≠ y) (d2 : y ≠ z) (d3 : x ≠ z) : KOk (roundF K x y z) := by
  obtain ⟨x, rfl⟩ : ∃ x' : Nat, x = (x' : Int) := ⟨x.toNat, by omega⟩
  obtain ⟨y, rfl⟩ : ∃ y' : Nat, y = (y' : Int) := ⟨y.toNat, by omega⟩
  obtain ⟨z, rfl⟩ : ∃ z' : Nat, z = (z' : Int) := ⟨z.toNat, by omega⟩
  exact roundF_ok kk h1.2 h2.2 h3.2 (fun w => d1 (by rw [w])) (fun w => d2 (by rw [w])) (fun w => d3 (by rw [w]))
theorem RL.tr6 (r : RL h I a K LW) (k6 : K 185 ≤ 6) (hI : ∀ b, a ≤ b → b ≤ a + 11 → I' b = I b) (hR1 : hR h' (a + 11) = hR h (a + 11)) (ht : ∀ j x, j < 6 → hR h (a + 11) j = some x → Sm h h' I I' x (x + 6)) : RL h' I' a K LW := by
  obtain ⟨r1, r2, ⟨r3, r4, r5⟩, r6, r7, ⟨r8, r9, r10⟩, r11, r12, r13, r14⟩ := r
  have e : ∀ i, i ≤ 11 → I' (a + i) = I (a + i) := fun i hi => hI (a + i) (by omega) (by omega)
  have e0 := e 0 (by omega)
  rw [Nat.add_zero] at e0
  refine ⟨by rw [e0]; exact r1, by rw [e 1 (by omega), e 2 (by omega)]; exact r2, ⟨by rw [e 3 (by omega), e 4 (by omega)]; exact r3, by rw [e 5 (by omega), e 6 (by omega)]; exact r4, by rw [e 7 (by omega)]; exact r5⟩, by rw [e 8 (by omega)]; exact r6, by rw [e0, e 9 (by omega), e 10 (by omega)]; exact r7, ⟨by rw [e0]; exact r8, by rw [e0]; exact r9, fun j hj => ?_⟩, fun b b1 b2 => by rw [hI b b1 b2]; exact r11 b b1 b2, by rw [e 3 (by omega)]; exact r12, by rw [e 5 (by omega)]; exact r13, by rw [e 7 (by omega)]; exact r14⟩
  obtain ⟨x, x1, x2, x3⟩ := r10 j hj
  exact ⟨x, by rw [hR1]; exact x1, x2, x3.tr (ht j x (by omega) x1)⟩
theorem AnyOk.fr {LW' : Nat → Nat × (Nat → Cls)} (o : AnyOk h I a K' LW') {K : Nat → Int} {LW : Nat → Nat × (Nat → Cls)} (r : RL h I' a K LW) (k6 : K 185 ≤ 6) {I1 : Nat → Nat → Int} (c : ∀ b, (a ≤ b ∧ b ≤ a + 11) ∨ 118 ≤ b → I1 b = I' b) : RL h I1 a K LW := r.tr6 k6 (fun b b1 b2 => c b (by omega)) rfl fun j x hj hx b b1 b2 => ⟨rfl, rfl, rfl, c b (by have := o.2.2.2.2.2 j x hj hx; omega)⟩
theorem u_swap {v : Nat} (o : AnyOk h I a K LW) (hv : ShMo h v) (hd : a + 11 < v ∧ v + 5 < 118) (x y : Int) : ∃ I1, (∀ b, (b < a ∨ a + 11 < b) → (b < v + 1 ∨ v + 5 < b) → I1 b = I b) ∧ RL h I1 a (if 0 ≤ swapV K (lvOf K LW) x y then swapF K x y else K) LW ∧ rn (d + 5) 21 [iR (some v), iR (some a), iI x, iI y] (st h I J) = some (oI (swapV K (lvOf K LW) x y), st h I1 J) := by
  have kk := o.2.2.2.1
  have k6 := kk.2.2.2.2.2.1
  have r := o.2.2.1
  obtain ⟨I1, a1, a2⟩ := s_trySwap (d := d) (J := J) hv (r.lj kk o.2.1 (Mo_s1 hv) (by omega) (by omega)) (by omega) x y
  rw [r.swapR_ok kk o.2.2.2.2.1] at a1 a2
  by_cases c : 0 ≤ swapV K (lvOf K LW) x y
  · rw [if_neg (by omega)] at a1
    rw [if_pos c]
    obtain ⟨c1, c2, c3⟩ := swapV_c c
    obtain ⟨x, rfl⟩ : ∃ x' : Nat, x = (x' : Int) := ⟨x.toNat, by omega⟩
    obtain ⟨y, rfl⟩ : ∃ y' : Nat, y = (y' : Int) := ⟨y.toNat, by omega⟩
    have hn := kk.1
    refine ⟨I1, fun b q1 q2 => ?_, o.fr (r.swap kk (by omega) c1.2 c2.2 (fun z => c3 (by rw [z]))) (by rw [swapF_hi (by omega) (by omega) (by omega)]; exact k6.2) fun b hb => a1 b (by omega), a2⟩
    rw [a1 b (by omega)]
    unfold swapI putI
    rw [up_na (by omega), up_na (by omega), up_na (by omega), up_na (by omega)]
  · rw [if_pos (by omega)] at a1
    rw [if_neg c]
    exact ⟨I1, fun b q1 q2 => a1 b (by omega), o.fr r k6.2 fun b hb => a1 b (by omega), a2⟩
theorem u_round {v : Nat} (o : AnyOk h I a K LW) (hv : ShMo h v) (hd : a + 11 < v ∧ v + 5 < 118) (x y z : Int) : ∃ I1, (∀ b, (b < a ∨ a + 11 < b) → (b < v + 1 ∨ v + 5 < b) → I1 b = I b) ∧ RL h I1 a (if 0 ≤ roundV K (lvOf K LW) x y z then roundF K x y z else K) LW ∧ rn (d + 5) 22 [iR (some v), iR (some a), iI x, iI y, iI z] (st h I J) = some (oI (roundV K (lvOf K LW) x y z), st h I1 J) := by
  have kk := o.2.2.2.1
  have k6 := kk.2.2.2.2.2.1
  have r := o.2.2.1
  obtain ⟨I1, a1, a2⟩ := s_tryRound (d := d) (J := J) hv (r.lj kk o.2.1 (Mo_s1 hv) (by omega) (by omega)) (by omega) x y z
  rw [r.roundR_ok kk o.2.2.2.2.1] at a1 a2
  by_cases c : 0 ≤ roundV K (lvOf K LW) x y z
  · rw [if_neg (by omega)] at a1
    rw [if_pos c]
    obtain ⟨⟨c1, c2, c3⟩, d1, d2, d3⟩ := roundV_c c
    obtain ⟨x, rfl⟩ : ∃ x' : Nat, x = (x' : Int) := ⟨x.toNat, by omega⟩
    obtain ⟨y, rfl⟩ : ∃ y' : Nat, y = (y' : Int) := ⟨y.toNat, by omega⟩
    obtain ⟨z, rfl⟩ : ∃ z' : Nat, z = (z' : Int) := ⟨z.toNat, by omega⟩
    have hn := kk.1
    refine ⟨I1, fun b q1 q2 => ?_, o.fr (r.round kk (by omega) c1.2 c2.2 c3.2 (fun w => d1 (by rw [w])) (fun w => d2 (by rw [w])) (fun w => d3 (by rw [w]))) (by rw [roundF_hi (by omega) (by omega) (by omega) (by omega)]; exact k6.2) fun b hb => a1 b (by omega), a2⟩
    rw [a1 b (by omega)]
    unfold roundI putI
    rw [up_na (by omega), up_na (by omega), up_na (by omega), up_na (by omega), up_na (by omega), up_na (by omega)]
  · rw [if_pos (by omega)] at a1
    rw [if_neg c]
    exact ⟨I1, fun b q1 q2 => a1 b (by omega), o.fr r k6.2 fun b hb => a1 b (by omega), a2⟩
theorem u_pass {v : Nat} (o : AnyOk h I a K LW) (hv : ShMo h v) (hd : a + 11 < v ∧ v + 5 < 118) (e1 : I 1 = z0M) (en : K 183 = (n : Int)) (hy : K 112 < 999) : ∃ I1, (∀ b, (b < a ∨ a + 11 < b) → (b < v + 1 ∨ v + 5 < b) → I1 b = I b) ∧ RL h I1 a (passK K (lvOf K LW) n) LW ∧ rn (d + 5) 24 [iR (some v), iR (some a)] (st h I J) = some (oI (passV K (lvOf K LW)), st h I1 J) := by
  have kk := o.2.2.2.1
  have k1 := kk.1
  have k6 := kk.2.2.2.2.2.1
  have k7 := kk.2.2.2.1.1
  have r := o.2.2.1
  have lj := r.lj kk o.2.1 (Mo_s1 hv) (by omega) (by omega)
  have hw : LwOk h I (v + 1) (v + 5) (lawOf h I a) := fun q hq => by
    refine ⟨(lj.2.2.2.1 q hq).1, ?_⟩
    rcases r.law kk with ⟨-, z2, -⟩ | ⟨q', z1, z2, -⟩
    · rw [z2] at hq
      cases hq
    · rw [z1] at hq
      cases hq
      omega
  have e8 : I (a + 8) 0 = K 112 := r.2.2.2.1.1
  obtain ⟨I1, a1, a2⟩ := s_tryPass (d := d) (J := J) hv lj (by omega) hw (r.pm kk) r.2.2.2.2.2.2.2.1 r.2.2.2.2.2.2.2.2.1 (by rw [e8]; omega) (aT_1 o.1) (aL_1 o.1) (by rw [e1]; rfl)
  rw [r.passR_ok kk] at a2
  refine ⟨I1, fun b q1 q2 => ?_, o.fr (r.pass kk (by omega) (n := n) en.symm hy) (by rw [passK_at 185 (by omega) (by omega) (by omega)]; exact k6.2) fun b hb => a1 b (by omega), a2⟩
  rw [a1 b (by omega)]
  unfold passW
  rw [e8, if_pos hy, up_na (by omega), passI_na (by omega) (by omega)]
theorem CK.cg (c : CK K LW L n) (k : KOk K') (e : ∀ i, 183 ≤ i → K' i = K i) : CK K' LW L n := by
  obtain ⟨c1, c2, c3, c4⟩ := c
  refine ⟨k, c2.cg c1 fun i i1 i2 => e i (by omega), ?_, by rw [e 183 (by omega)]; exact c4⟩
  rw [← c3]
  unfold lvOf
  rw [e 186 (by omega)]
theorem CK.act (c : CK K LW L n) (hn : 0 < n) (x1 x2 x3 x4 : Int) : CK (actK K L n x1 x2 x3 x4) LW L n ∧ ∀ i, 7 ≤ i → actK K L n x1 x2 x3 x4 i = K i := by
  have kk := c.1
  have k1 := kk.1
  unfold actK
  by_cases q1 : x4 % 4 < 2
  · rw [if_pos q1]
    by_cases q2 : 0 ≤ swapV K L (x1 % n) (x2 % n)
    · rw [if_pos q2]
      obtain ⟨c1, c2, c3⟩ := swapV_c q2
      have e : ∀ i, 7 ≤ i → swapF K (x1 % n) (x2 % n) i = K i := fun i hi => swapF_hi (by omega) (by omega) hi
      exact ⟨c.cg (swapF_okI kk c1 c2 c3) fun i hi => e i (by omega), e⟩
    · rw [if_neg q2]
      exact ⟨c, fun _ _ => rfl⟩
  · rw [if_neg q1]
    by_cases q3 : x4 % 4 = 2
    · rw [if_pos q3]
      by_cases q2 : 0 ≤ roundV K L (x1 % n) (x2 % n) (x3 % n)
      · rw [if_pos q2]
        obtain ⟨⟨c1, c2, c3⟩, d1, d2, d3⟩ := roundV_c q2
        have e : ∀ i, 7 ≤ i → roundF K (x1 % n) (x2 % n) (x3 % n) i = K i := fun i hi => roundF_hi (by omega) (by omega) (by omega) hi
        exact ⟨c.cg (roundF_okI kk c1 c2 c3 d1 d2 d3) fun i hi => e i (by omega), e⟩
      · rw [if_neg q2]
        exact ⟨c, fun _ _ => rfl⟩
    · rw [if_neg q3]
      exact ⟨c, fun _ _ => rfl⟩
theorem CK.yr (c : CK K LW L n) (hn : 0 < n) (hy : K 112 < 999) (x : Int) : CK (yrK K L n x) LW L n ∧ ∀ i, 113 ≤ i → yrK K L n x i = K i := by
  have k1 := c.1.1
  have k4 := c.2.2.2
  have a := c.act hn (nd x) (nd (nd x)) (nd (nd (nd x))) (nd (nd (nd (nd x))))
  unfold yrK
  have e : ∀ i, 113 ≤ i → passK (actK K L n (nd x) (nd (nd x)) (nd (nd (nd x))) (nd (nd (nd (nd x))))) L n i = K i := fun i hi => by rw [passK_at i (by omega) (by omega) (by omega), a.2 i (by omega)]
  exact ⟨a.1.cg (passK_ok a.1.1 a.1.2.2.2.symm (by rw [a.2 112 (by omega)]; exact hy)) fun i hi => by rw [e i (by omega), a.2 i (by omega)], e⟩
theorem CK.cen (hn : 0 < n) : ∀ (q : Nat) {K : Nat → Int} (x : Int), CK K LW L n → CK (cenK L n K x q) LW L n ∧ ∀ i, 113 ≤ i → cenK L n K x q i = K i
  | 0, _, _, c => ⟨c, fun _ _ => rfl⟩
  | q + 1, K, x, c => by
    show CK (if K 112 < 999 then cenK L n (yrK K L n x) (nd (nd (nd (nd x)))) q else K) LW L n ∧ ∀ i, 113 ≤ i → (if K 112 < 999 then cenK L n (yrK K L n x) (nd (nd (nd (nd x)))) q else K) i = K i
    by_cases hy : K 112 < 999
    · have y := c.yr hn hy x
      have i0 := CK.cen hn q (nd (nd (nd (nd x)))) y.1
      rw [if_pos hy]
      exact ⟨i0.1, fun i hi => (i0.2 i hi).trans (y.2 i hi)⟩
    · rw [if_neg hy]
      exact ⟨c, fun _ _ => rfl⟩
/-- a year by draws: the class -/
theorem c_year {v : Nat} (o : AnyOk h I a K LW) (c : CK K LW L n) (hn : 0 < n) (hv : ShMo h v) (hd : a + 11 < v ∧ v + 5 < 118) (e1 : I 1 = z0M) (ha1 : 1 < a) (hy : K 112 < 999) {x : Int} (hx : 0 ≤ x ∧ x < 1900000) : ∃ I1, (∀ b, (b < a ∨ a + 11 < b) → (b < v + 1 ∨ v + 5 < b) → I1 b = I b) ∧ RL h I1 a (yrK K L n x) LW ∧ rn (d + 6) 25 [iR (some v), iR (some a), iI x] (st h I J) = some (oI (nd (nd (nd (nd x)))), st h I1 J) := by
  have hl := o.2.1
  have la := La_t hl
  have kk := c.1
  have k1 := kk.1
  have en := c.2.2.2
  have e0 : I a 0 = (n : Int) := o.2.2.1.1.trans en
  have n1 := nd_in (x := x)
  have n2 := nd_in (x := nd x)
  have n3 := nd_in (x := nd (nd x))
  have n4 := nd_in (x := nd (nd (nd x)))
  obtain ⟨x1, ex1⟩ : ∃ x1, nd x = x1 := ⟨_, rfl⟩
  have s1 := s_nextDrawn (d := d + 4) (st h I J) hx
  rw [show (x * 1103 + 12345) % 1000003 = x1 from ex1] at s1
  rw [ex1] at n1 n2 n3 n4
  obtain ⟨x2, ex2⟩ : ∃ x2, nd x1 = x2 := ⟨_, rfl⟩
  have s2 := s_nextDrawn (d := d + 4) (st h I J) (x := x1) (by omega)
  rw [show (x1 * 1103 + 12345) % 1000003 = x2 from ex2] at s2
  rw [ex2] at n2 n3 n4
  obtain ⟨x3, ex3⟩ : ∃ x3, nd x2 = x3 := ⟨_, rfl⟩
  have s3 := s_nextDrawn (d := d + 4) (st h I J) (x := x2) (by omega)
  rw [show (x2 * 1103 + 12345) % 1000003 = x3 from ex3] at s3
  rw [ex3] at n3 n4
  obtain ⟨x4, ex4⟩ : ∃ x4, nd x3 = x4 := ⟨_, rfl⟩
  have s4 := s_nextDrawn (d := d + 4) (st h I J) (x := x3) (by omega)
  rw [show (x3 * 1103 + 12345) % 1000003 = x4 from ex4] at s4
  rw [ex4] at n4
  have ey : yrK K L n x = passK (actK K L n x1 x2 x3 x4) L n := by
    unfold yrK
    rw [ex1, ex2, ex3, ex4]
  have ca := c.act hn x1 x2 x3 x4
  rw [ey, ex1, ex2, ex3, ex4]
  -- after the exchange
  have tail : ∀ (I2 : Nat → Nat → Int) (f : Nat), (∀ b, (b < a ∨ a + 11 < b) → (b < v + 1 ∨ v + 5 < b) → I2 b = I b) → RL h I2 a (actK K L n x1 x2 x3 x4) LW → ∃ I1, (∀ b, (b < a ∨ a + 11 < b) → (b < v + 1 ∨ v + 5 < b) → I1 b = I b) ∧ RL h I1 a (passK (actK K L n x1 x2 x3 x4) L n) LW ∧ lp (d + 5) 25 (f + 1) 104 [some (iR (some v)), some (iR (some a)), none, none, none, none, some (iI x4), none, none, none, none] [] (st h I2 J) = some (oI x4, st h I1 J) := by
    intro I2 f c1 c2
    obtain ⟨I1, a1, a2, a3⟩ := u_pass (d := d) (J := J) (I := I2) (n := n) (v := v) ⟨o.1, hl, c2, ca.1.1, ca.1.2.1, o.2.2.2.2.2⟩ hv hd (by rw [c1 1 (by omega) (by omega)]; exact e1) ca.1.2.2.2 (by rw [ca.2 112 (by omega)]; exact hy)
    rw [ca.1.2.2.1] at a2 a3
    exact ⟨I1, fun b q1 q2 => (a1 b q1 q2).trans (c1 b q1 q2), a2, by rw [e_Mo_drawYear_104, yck (Mo_t hv), a3, kI_o]⟩
  have b1 : 0 ≤ x1 % (n : Int) ∧ x1 % (n : Int) < 7 := by
    have := Int.emod_nonneg x1 (show (n : Int) ≠ 0 by omega)
    have := Int.emod_lt_of_pos x1 (show (0 : Int) < n by omega)
    omega
  have b2 : 0 ≤ x2 % (n : Int) ∧ x2 % (n : Int) < 7 := by
    have := Int.emod_nonneg x2 (show (n : Int) ≠ 0 by omega)
    have := Int.emod_lt_of_pos x2 (show (0 : Int) < n by omega)
    omega
  have b3 : 0 ≤ x3 % (n : Int) ∧ x3 % (n : Int) < 7 := by
    have := Int.emod_nonneg x3 (show (n : Int) ≠ 0 by omega)
    have := Int.emod_lt_of_pos x3 (show (0 : Int) < n by omega)
    omega
  have hh : ∀ f, lp (d + 5) 25 (f + 1) 52 [some (iR (some v)), some (iR (some a)), none, none, none, some (iI x3), some (iI x4), some (iI (x1 % n)), some (iI (x2 % n)), none, none] [] (st h I J) = (if x4 % 4 < 2 then xck (st h I J) v 12 <| kI (rn (d + 5) 21 [iR (some v), iR (some a), iI (x1 % n), iI (x2 % n)] (st h I J)) fun _ h5 => lp (d + 5) 25 f 104 [some (iR (some v)), some (iR (some a)), none, none, none, none, some (iI x4), none, none, none, none] [] h5 else (if x4 % 4 = 2 then xck (st h I J) v 12 <| kI (rn (d + 5) 22 [iR (some v), iR (some a), iI (x1 % n), iI (x2 % n), iI (x3 % n)] (st h I J)) fun _ h7 => lp (d + 5) 25 f 104 [some (iR (some v)), some (iR (some a)), none, none, none, none, some (iI x4), none, none, none, none] [] h7 else lp (d + 5) 25 f 104 [some (iR (some v)), some (iR (some a)), none, none, none, none, some (iI x4), none, none, none, none] [] (st h I J))) := fun f => by
    rw [e_Mo_drawYear_52, xB_s, ygIv la e0, xmI_ok (by omega), Int.tmod_eq_emod_of_nonneg (by omega), wr_id (x := x3 % (n : Int)) (by omega) (by omega), xmI_ok (by omega), Int.tmod_eq_emod_of_nonneg (by omega), wr_id (x := x4 % 4) (by omega) (by omega)]
  have en0 : ∀ f, rn (d + 6) 25 [iR (some v), iR (some a), iI x] (st h I J) = lp (d + 5) 25 (999997 + 1 + 1) 52 [some (iR (some v)), some (iR (some a)), none, none, none, some (iI x3), some (iI x4), some (iI (x1 % n)), some (iI (x2 % n)), none, none] [] (st h I J) ∨ f = 0 := fun f => Or.inl (by
    rw [r_Mo_drawYear, e_Mo_drawYear, s1, kI_o, s2, kI_o, s3, kI_o, s4, kI_o, xB_s, ygIv la e0, if_neg (by omega), xB_s, ygIv la e0, xmI_ok (by omega), Int.tmod_eq_emod_of_nonneg (by omega), wr_id (x := x1 % (n : Int)) (by omega) (by omega), xB_s, ygIv la e0, xmI_ok (by omega), Int.tmod_eq_emod_of_nonneg (by omega), wr_id (x := x2 % (n : Int)) (by omega) (by omega)])
  rcases en0 1 with en1 | z
  case inr => omega
  rw [en1, hh]
  have eA : actK K L n x1 x2 x3 x4 = (if x4 % 4 < 2 then (if 0 ≤ swapV K L (x1 % n) (x2 % n) then swapF K (x1 % n) (x2 % n) else K) else if x4 % 4 = 2 then (if 0 ≤ roundV K L (x1 % n) (x2 % n) (x3 % n) then roundF K (x1 % n) (x2 % n) (x3 % n) else K) else K) := rfl
  by_cases q1 : x4 % 4 < 2
  · rw [if_pos q1] at eA
    obtain ⟨I2, c1, c2, c3⟩ := u_swap (d := d) (J := J) o hv hd (x1 % n) (x2 % n)
    rw [c.2.2.1] at c2 c3
    rw [← eA] at c2
    rw [if_pos q1, yck (Mo_t hv), c3, kI_o]
    exact tail I2 _ c1 c2
  rw [if_neg q1] at eA
  rw [if_neg q1]
  by_cases q2 : x4 % 4 = 2
  · rw [if_pos q2] at eA
    obtain ⟨I2, c1, c2, c3⟩ := u_round (d := d) (J := J) o hv hd (x1 % n) (x2 % n) (x3 % n)
    rw [c.2.2.1] at c2 c3
    rw [← eA] at c2
    rw [if_pos q2, yck (Mo_t hv), c3, kI_o]
    exact tail I2 _ c1 c2
  · rw [if_neg q2] at eA
    rw [if_neg q2]
    exact tail I _ (fun _ _ _ => rfl) (by rw [eA]; exact o.2.2.1)
theorem cnt_any (r : RL h I a K LW) (k : KOk K) : ∀ c : Nat, (c : Int) ≤ K 183 → cntSelf (I (a + 2)) c = cntSelf K c
  | 0, _ => rfl
  | c + 1, hc => by
    have k1 := k.1
    rw [cntSelf_s, cntSelf_s, cnt_any r k c (by omega)]
    have e := (r.2.1 c (by omega)).2
    rw [if_pos (show (c : Int) < K 183 by omega)] at e
    have e' : I (a + 2) c = atK K c := e
    rw [e']
    have h1 := atK_ok k (s := (c : Int)) (by omega)
    by_cases q : K c = (c : Int)
    · have := atK_of k (u := c) (by omega)
      rw [q] at this
      rw [if_pos this, if_pos q]
    · rw [if_neg q, if_neg]
      intro z
      rw [z, Int.toNat_natCast] at h1
      exact q h1.2
theorem l_cenT {N : Nat} (hN : N ≤ 60) (hn : 0 < n) : ∀ (q j f : Nat) (I : Nat → Nat → Int) (K : Nat → Int) (x : Int), j + q = N → (0 ≤ x ∧ x < 1900000) → I 1 = z0M → AnyOk h I 28 K LW → CK K LW L n → ∃ I1, (∀ b, (b < 28 ∨ 39 < b) → (b < 57 ∨ 61 < b) → I1 b = I b) ∧ RL h I1 28 (cenK L n K x q) LW ∧ lp (d + 7) 134 (f + q + 1) 61 [some (iR (some 3)), none, some (iI (N : Int)), some (iI x), some (iI (j : Int))] [] (st h I J) = some (oI (cntSelf (cenK L n K x q) n : Nat), st h (up I1 3 15 0) J) := by
  intro q
  induction q with
  | zero =>
    intro j f I K x hj hx e1 o c
    have s := o.1
    have k1 := c.1.1
    have en := c.2.2.2
    have hc := s_countHome (d := d + 6) (J := J) o.2.1 (o.2.2.1.1.trans en) (by omega)
    rw [cnt_any o.2.2.1 c.1 n (by omega)] at hc
    refine ⟨I, fun _ _ _ => rfl, o.2.2.1, ?_⟩
    rw [Nat.add_zero, e_T_centuries_61, if_neg (by omega), ygR (aT_3 s) (aR_3_2 s), xB_s, yck (aT_28 s), hc, kI_o, yck (aT_3 s), s_taken (d := d + 6) s, kI_o]
    rfl
  | succ q ih =>
    intro j f I K x hj hx e1 o c
    have s := o.1
    have k1 := c.1.1
    have en := c.2.2.2
    have r8 := o.2.2.1.2.2.2.1.1
    rw [show f + (q + 1) + 1 = (f + q + 1) + 1 by omega, e_T_centuries_61, if_pos (by omega), ygR (aT_3 s) (aR_3_2 s), xB_s, ygR (aT_28 s) (La_r8 o.2.1), xB_s, yaIv (i := 0) (j := 0) (La_t8 o.2.1) (La_l8 o.2.1) rfl (by omega) r8, yaIv (i := 0) (j := 0) (x := 999) (aT_1 s) (aL_1 s) rfl (by omega) (by rw [e1]; rfl)]
    show ∃ I1, _ ∧ RL h I1 28 (if K 112 < 999 then cenK L n (yrK K L n x) (nd (nd (nd (nd x)))) q else K) LW ∧ _ = some (oI (cntSelf (if K 112 < 999 then cenK L n (yrK K L n x) (nd (nd (nd (nd x)))) q else K) n : Nat), st h (up I1 3 15 0) J)
    by_cases hy : K 112 < 999
    · obtain ⟨I2, a1, a2, a3⟩ := c_year (d := d + 1) (J := J) (v := 56) o c hn (ShT_56 s) (by omega) e1 (by omega) hy hx
      have cy := c.yr hn hy x
      have n4 := nd_in (x := nd (nd (nd x)))
      obtain ⟨I1, b1, b2, b3⟩ := ih (j + 1) f I2 (yrK K L n x) (nd (nd (nd (nd x)))) (by omega) (by omega) (by rw [a1 1 (by omega) (by omega)]; exact e1) ⟨s, o.2.1, a2, cy.1.1, cy.1.2.1, o.2.2.2.2.2⟩ cy.1
      rw [if_pos hy, if_pos hy]
      refine ⟨I1, fun b q1 q2 => (b1 b q1 q2).trans (a1 b q1 (by omega)), b2, ?_⟩
      rw [ygR (aT_3 s) (aR_3_7 s), ygR (aT_3 s) (aR_3_2 s), xB_s, yck (aT_56 s), a3, kI_o, wr_id (x := (j : Int) + 1) (by omega) (by omega), show (j : Int) + 1 = ((j + 1 : Nat) : Int) by omega]
      exact b3
    · have hc := s_countHome (d := d + 6) (J := J) o.2.1 (o.2.2.1.1.trans en) (by omega)
      rw [cnt_any o.2.2.1 c.1 n (by omega)] at hc
      rw [if_neg hy, if_neg hy]
      refine ⟨I, fun _ _ _ => rfl, o.2.2.1, ?_⟩
      rw [ygR (aT_3 s) (aR_3_2 s), xB_s, yck (aT_28 s), hc, kI_o, yck (aT_3 s), s_taken (d := d + 6) s, kI_o]
end P98r
