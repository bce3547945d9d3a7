/-! Towns, roads, terms, laws in force, what was heard: the relation is kept (by program, wip/whole/gen96.py) -/
theorem upF_at (K : Nat → Int) (i : Nat) (x : Int) (j : Nat) : upF K i x j = if j = i then x else K j := rfl
theorem upF_n {K : Nat → Int} {i j : Nat} {x : Int} (h : j ≠ i) : upF K i x j = K j := if_neg h
theorem upF_e (K : Nat → Int) (i : Nat) (x : Int) : upF K i x i = x := if_pos rfl
def townF (K : Nat → Int) (n : Nat) (x y : Int) : Nat → Int := upF (upF (upF (upF K n n) (7 + n) x) (113 + n) y) 183 ((n : Int) + 1)
def roadF (K : Nat → Int) (x y : Nat) (v : Int) : Nat → Int := upF (upF (upF (upF K (120 + (7 * x + y)) v) (120 + (7 * y + x)) v) (63 + (7 * x + y)) 0) (63 + (7 * y + x)) 0
def heardF (K : Nat → Int) (c : Nat) (u n : Int) : Nat → Int := upF (upF (upF K (169 + 2 * c) u) (170 + 2 * c) n) 184 ((c : Int) + 1)
section P96
variable {h : IH} {I I' : Nat → Nat → Int} {a n : Nat} {K K' : Nat → Int} {LW : Nat → Nat × (Nat → Cls)}
theorem townF_at (x y : Int) (j : Nat) : townF K n x y j = if j = 183 then (n : Int) + 1 else if j = 113 + n then y else if j = 7 + n then x else if j = n then (n : Int) else K j := rfl
theorem townF_o (hn : n < 7) (x y : Int) {j : Nat} (h1 : j ≠ 183) (h2 : j ≠ 113 + n) (h3 : j ≠ 7 + n) (h4 : j ≠ n) : townF K n x y j = K j := by
  rw [townF_at, if_neg h1, if_neg h2, if_neg h3, if_neg h4]
theorem townF_lo (hn : n < 7) (x y : Int) {j : Nat} (hj : j < 7) : townF K n x y j = if j = n then (n : Int) else K j := by
  rw [townF_at, if_neg (by omega), if_neg (by omega), if_neg (by omega)]
theorem townF_ok (k : KOk K) (en : K 183 = (n : Int)) (hn : n < 7) {x y : Int} (hx : 0 ≤ x ∧ x ≤ 9) (hy : 0 ≤ y ∧ y ≤ 9) : KOk (townF K n x y) := by
  obtain ⟨k1, ⟨k2, k2b⟩, ⟨k3, k4, k5, k6⟩, k7, ⟨k10, k11⟩, k12⟩ := k
  have e183 : townF K n x y 183 = (n : Int) + 1 := by rw [townF_at, if_pos rfl]
  have f : ∀ i, i ≠ 183 → i ≠ 113 + n → i ≠ 7 + n → i ≠ n → townF K n x y i = K i := fun i => townF_o hn x y
  have lo : ∀ i, i < 7 → townF K n x y i = if i = n then (n : Int) else K i := fun i => townF_lo hn x y
  refine ⟨by rw [e183]; omega, ⟨fun u hu => ?_, fun q hq => ?_⟩, ⟨fun q hq => ?_, fun i hi => ?_, fun q w hq hw => ?_, fun q hq => ?_⟩, ?_, ?_, ?_⟩
  · rw [e183] at hu ⊢
    rw [lo u (by omega)]
    split
    · omega
    · have := k2 u (by omega)
      omega
  · rw [e183] at hq
    by_cases c : q = n
    · exact ⟨n, by rw [e183]; omega, by rw [lo n hn, if_pos rfl, c]⟩
    · obtain ⟨u, u1, u2⟩ := k2b q (by omega)
      exact ⟨u, by rw [e183]; omega, by rw [lo u (by omega), if_neg (by omega), u2]⟩
  · have q3 := k3 q hq
    rw [townF_at, townF_at, if_neg (by omega), if_neg (by omega), if_neg (show ¬ 113 + q = 183 by omega), if_neg (show ¬ 113 + q = 7 + n by omega), if_neg (show ¬ 113 + q = n by omega)]
    (repeat' split) <;> omega
  · rw [f (14 + i) (by omega) (by omega) (by omega) (by omega), f (63 + i) (by omega) (by omega) (by omega) (by omega), f (120 + i) (by omega) (by omega) (by omega) (by omega)]
    exact k4 i hi
  · rw [f (63 + (7 * q + w)) (by omega) (by omega) (by omega) (by omega), f (63 + (7 * w + q)) (by omega) (by omega) (by omega) (by omega)]
    exact k5 q w hq hw
  · rw [f (120 + 8 * q) (by omega) (by omega) (by omega) (by omega)]
    exact k6 q hq
  · rw [f 112 (by omega) (by omega) (by omega) (by omega), f 181 (by omega) (by omega) (by omega) (by omega), f 182 (by omega) (by omega) (by omega) (by omega)]
    exact k7
  · rw [f 184 (by omega) (by omega) (by omega) (by omega), e183]
    refine ⟨k10, fun i hi => ?_⟩
    rw [f (169 + 2 * i) (by omega) (by omega) (by omega) (by omega), f (170 + 2 * i) (by omega) (by omega) (by omega) (by omega)]
    have := k11 i hi
    omega
  · rw [f 185 (by omega) (by omega) (by omega) (by omega), f 186 (by omega) (by omega) (by omega) (by omega)]
    exact k12
theorem LwA.hi (hA : LwA K LW) (k : KOk K) (e : ∀ i, 185 ≤ i → i ≠ 186 → K' i = K i) : LwA K' LW := hA.cg k e
theorem RL.town (r : RL h I a K LW) (k : KOk K) (en : K 183 = (n : Int)) (hn : n < 7) (ha : a + 11 < 118) {x y : Int} (hx : 0 ≤ x ∧ x ≤ 9) (hy : 0 ≤ y ∧ y ≤ 9) : RL h (up (up (up I (a + 3) n x) (a + 4) n y) a 0 ((n : Int) + 1)) a (townF K n x y) LW := by
  obtain ⟨r1, r2, ⟨r3, r4, r5⟩, r6, ⟨r9, r10⟩, ⟨r11, r12, r13⟩, r14, r15, r16, r17⟩ := r
  have k1 := k.1
  have e183 : townF K n x y 183 = (n : Int) + 1 := by rw [townF_at, if_pos rfl]
  have f : ∀ i, i ≠ 183 → i ≠ 113 + n → i ≠ 7 + n → i ≠ n → townF K n x y i = K i := fun i => townF_o hn x y
  have lo : ∀ i, i < 7 → townF K n x y i = if i = n then (n : Int) else K i := fun i => townF_lo hn x y
  have o : ∀ b, b ≠ a → b ≠ a + 3 → b ≠ a + 4 → (up (up (up I (a + 3) n x) (a + 4) n y) a 0 ((n : Int) + 1)) b = I b := fun b q1 q2 q3 => by rw [up_na q1, up_na q3, up_na q2]
  have o0 : ∀ i, (up (up (up I (a + 3) n x) (a + 4) n y) a 0 ((n : Int) + 1)) a i = if i = 0 then (n : Int) + 1 else I a i := fun i => by rw [up_at, up_na (by omega), up_na (by omega)]
  have o3 : ∀ i, (up (up (up I (a + 3) n x) (a + 4) n y) a 0 ((n : Int) + 1)) (a + 3) i = if i = n then x else I (a + 3) i := fun i => by rw [up_na (by omega), up_na (by omega), up_at]
  have o4 : ∀ i, (up (up (up I (a + 3) n x) (a + 4) n y) a 0 ((n : Int) + 1)) (a + 4) i = if i = n then y else I (a + 4) i := fun i => by rw [up_na (by omega), up_at, up_na (by omega)]
  have hat : ∀ q : Nat, q < n + 1 → atK (townF K n x y) (q : Int) = if q = n then (n : Int) else atK K (q : Int) := fun q hq => by
    have k' := townF_ok k en hn hx hy
    have a1 := atK_ok k' (s := (q : Int)) (by rw [e183]; omega)
    rw [e183, lo _ (by omega)] at a1
    by_cases c : q = n
    · rw [if_pos c]
      obtain ⟨z1, z2⟩ := a1
      by_cases c2 : (atK (townF K n x y) (q : Int)).toNat = n
      · omega
      · rw [if_neg c2] at z2
        have := k.2.1.1 (atK (townF K n x y) (q : Int)).toNat (by omega)
        omega
    · rw [if_neg c]
      obtain ⟨z1, z2⟩ := a1
      by_cases c2 : (atK (townF K n x y) (q : Int)).toNat = n
      · rw [if_pos c2] at z2
        omega
      · rw [if_neg c2] at z2
        have := atK_of k (u := (atK (townF K n x y) (q : Int)).toNat) (by omega)
        rw [z2] at this
        omega
  refine ⟨by rw [o0, if_pos rfl, e183], fun t ht => ?_, ⟨fun q hq => ?_, fun i hi => ?_, fun q w hq hw => ?_⟩, ?_, ?_, ⟨?_, ?_, fun j hj => ?_⟩, fun b b1 b2 j => ?_, fun q => ?_, fun q => ?_, fun q => ?_⟩
  · rw [o (a + 1) (by omega) (by omega) (by omega), o (a + 2) (by omega) (by omega) (by omega), e183, lo t ht, (r2 t ht).1, (r2 t ht).2, en]
    by_cases c : t < n
    · have p1 : (t : Int) < (n : Int) := by omega
      have p2 : (t : Int) < (n : Int) + 1 := by omega
      have p3 : t ≠ n := by omega
      rw [if_pos p1, if_pos p1, if_pos p2, if_pos p2, if_neg p3, hat t (by omega), if_neg p3]
      exact ⟨rfl, rfl⟩
    · have p1 : ¬ (t : Int) < (n : Int) := by omega
      rw [if_neg p1, if_neg p1]
      by_cases c2 : t = n
      · have p2 : (t : Int) < (n : Int) + 1 := by omega
        rw [if_pos p2, if_pos p2, if_pos c2, hat t (by omega), if_pos c2, c2]
        exact ⟨rfl, rfl⟩
      · have p2 : ¬ (t : Int) < (n : Int) + 1 := by omega
        rw [if_neg p2, if_neg p2]
        exact ⟨rfl, rfl⟩
  · rw [o3, o4, townF_at, townF_at, if_neg (show ¬ 7 + q = 183 by omega), if_neg (show ¬ 7 + q = 113 + n by omega), if_neg (show ¬ 113 + q = 183 by omega), if_neg (show ¬ 113 + q = 7 + n by omega), if_neg (show ¬ 113 + q = n by omega), if_neg (show ¬ 7 + q = n by omega) , (r3 q hq).1, (r3 q hq).2]
    by_cases c : q = n
    · rw [if_pos c, if_pos c, if_pos (by omega), if_pos (by omega)]
      exact ⟨rfl, rfl⟩
    · rw [if_neg c, if_neg c, if_neg (by omega), if_neg (by omega)]
      exact ⟨rfl, rfl⟩
  · rw [o (a + 5) (by omega) (by omega) (by omega), o (a + 6) (by omega) (by omega) (by omega), f (14 + i) (by omega) (by omega) (by omega) (by omega), f (120 + i) (by omega) (by omega) (by omega) (by omega)]
    exact r4 i hi
  · rw [o (a + 7) (by omega) (by omega) (by omega), f (63 + (7 * q + w)) (by omega) (by omega) (by omega) (by omega)]
    exact r5 q w hq hw
  · rw [o (a + 8) (by omega) (by omega) (by omega), f 112 (by omega) (by omega) (by omega) (by omega), f 181 (by omega) (by omega) (by omega) (by omega), f 182 (by omega) (by omega) (by omega) (by omega)]
    exact r6
  · rw [o0, if_neg (by omega), o (a + 9) (by omega) (by omega) (by omega), o (a + 10) (by omega) (by omega) (by omega), f 184 (by omega) (by omega) (by omega) (by omega)]
    refine ⟨r9, fun i hi => ?_⟩
    rw [f (169 + 2 * i) (by omega) (by omega) (by omega) (by omega), f (170 + 2 * i) (by omega) (by omega) (by omega) (by omega)]
    exact r10 i hi
  · rw [o0, if_neg (by omega), f 185 (by omega) (by omega) (by omega) (by omega)]
    exact r11
  · rw [o0, if_neg (by omega), f 186 (by omega) (by omega) (by omega) (by omega)]
    exact r12
  · rw [f 185 (by omega) (by omega) (by omega) (by omega)] at hj
    obtain ⟨z, z1, z2, z3⟩ := r13 j hj
    exact ⟨z, z1, z2, z3.fr fun b c1 c2 => o b (by omega) (by omega) (by omega)⟩
  · by_cases c0 : b = a
    · rw [c0, o0]
      split
      · unfold inr; omega
      · exact r14 a (by omega) (by omega) j
    by_cases c3 : b = a + 3
    · rw [c3, o3]
      split
      · unfold inr; omega
      · exact r14 (a + 3) (by omega) (by omega) j
    by_cases c4 : b = a + 4
    · rw [c4, o4]
      split
      · unfold inr; omega
      · exact r14 (a + 4) (by omega) (by omega) j
    · rw [o b c0 c3 c4]
      exact r14 b b1 b2 j
  · rw [o3]
    split
    · exact hx
    · exact r15 q
  · rw [o (a + 5) (by omega) (by omega) (by omega)]
    exact r16 q
  · rw [o (a + 7) (by omega) (by omega) (by omega)]
    exact r17 q
/-- a road -/
theorem roadF_of {x y : Nat} (hx : x < 7) (hy : y < 7) (v : Int) {i : Nat} (hi : (i < 63 ∨ 112 ≤ i) ∧ (i < 120 ∨ 169 ≤ i)) : roadF K x y v i = K i := by
  unfold roadF
  rw [upF_n (by omega), upF_n (by omega), upF_n (by omega), upF_n (by omega)]
theorem roadF_63 {x y : Nat} (hx : x < 7) (hy : y < 7) (v : Int) (q w : Nat) (hq : q < 7) (hw : w < 7) : roadF K x y v (63 + (7 * q + w)) = if (q = x ∧ w = y) ∨ (q = y ∧ w = x) then 0 else K (63 + (7 * q + w)) := by
  unfold roadF
  rw [upF_at, upF_at, upF_n (by omega), upF_n (by omega)]
  (repeat' split) <;> first | rfl | (exfalso; omega)
theorem roadF_120 {x y : Nat} (hx : x < 7) (hy : y < 7) (v : Int) (q w : Nat) (hq : q < 7) (hw : w < 7) : roadF K x y v (120 + (7 * q + w)) = if (q = x ∧ w = y) ∨ (q = y ∧ w = x) then v else K (120 + (7 * q + w)) := by
  unfold roadF
  rw [upF_n (by omega), upF_n (by omega), upF_at, upF_at]
  (repeat' split) <;> first | rfl | (exfalso; omega)
theorem roadF_ok (k : KOk K) {x y : Nat} (hx : x < 7) (hy : y < 7) (hxy : x ≠ y) {v : Int} (hv : 0 ≤ v ∧ v ≤ 99) : KOk (roadF K x y v) := by
  have f : ∀ i, (i < 63 ∨ 112 ≤ i) ∧ (i < 120 ∨ 169 ≤ i) → roadF K x y v i = K i := fun i hi => roadF_of hx hy v hi
  have g := roadF_63 (K := K) hx hy v
  have g2 := roadF_120 (K := K) hx hy v
  obtain ⟨k1, k2, ⟨k3, k4, k5, k6⟩, k7, ⟨k10, k11⟩, k12⟩ := id k
  refine k.set (fun i hi => f i (by omega)) (f 183 (by omega)) (fun s hs => ?_) (fun i hi => ?_) (fun q w hq hw => ?_) (fun q hq => ?_) ?_ ?_ ?_
  · rw [f (7 + s) (by omega), f (113 + s) (by omega)]
    exact k3 s hs
  · have h1 := g (i / 7) (i % 7) (by omega) (by omega)
    have h2 := g2 (i / 7) (i % 7) (by omega) (by omega)
    rw [show 7 * (i / 7) + i % 7 = i by omega] at h1 h2
    rw [f (14 + i) (by omega), h1, h2]
    have h3 := k4 i hi
    refine ⟨h3.1, ?_, ?_⟩
    · split
      · exact Or.inl rfl
      · exact h3.2.1
    · split
      · exact hv
      · exact h3.2.2
  · rw [g q w hq hw, g w q hw hq, k5 q w hq hw]
    (repeat' split) <;> first | rfl | (exfalso; omega)
  · have := g2 q q hq hq
    rw [show 120 + 8 * q = 120 + (7 * q + q) by omega, this, if_neg (by omega), show 120 + (7 * q + q) = 120 + 8 * q by omega]
    exact k6 q hq
  · rw [f 112 (by omega), f 181 (by omega), f 182 (by omega)]
    exact k7
  · rw [f 184 (by omega), f 183 (by omega)]
    refine ⟨k10, fun i hi => ?_⟩
    rw [f (169 + 2 * i) (by omega), f (170 + 2 * i) (by omega)]
    exact k11 i hi
  · rw [f 185 (by omega), f 186 (by omega)]
    exact k12
theorem landRoad_7 {x y : Nat} (hxy : x ≠ y) (v : Int) (t : Nat) : landRoad I a x y v (a + 7) t = if t = y then iand (I (a + 7) y) (ixor (ishl 1 x) (-1)) else if t = x then iand (I (a + 7) x) (ixor (ishl 1 y) (-1)) else I (a + 7) t := by
  unfold landRoad
  simp only [Int.toNat_natCast]
  have o7 : (up (up I (a + 6) ((x : Int) * 7 + y).toNat v) (a + 6) ((y : Int) * 7 + x).toNat v) (a + 7) = I (a + 7) := by rw [up_na (by omega), up_na (by omega)]
  by_cases c : t = y
  · rw [up_at, if_pos c, if_pos c, up_ni (fun z => hxy z.symm), o7]
  · rw [up_at, if_neg c, if_neg c, up_at, o7]
theorem landRoad_6 {x y : Nat} (v : Int) (t : Nat) : landRoad I a x y v (a + 6) t = if t = 7 * y + x then v else if t = 7 * x + y then v else I (a + 6) t := by
  unfold landRoad
  rw [up_na (by omega), up_na (by omega), up_at, up_at, show ((y : Int) * 7 + x).toNat = 7 * y + x by omega, show ((x : Int) * 7 + y).toNat = 7 * x + y by omega]
theorem landRoad_o {x y : Int} (v : Int) {b : Nat} (h6 : b ≠ a + 6) (h7 : b ≠ a + 7) : landRoad I a x y v b = I b := by
  unfold landRoad
  rw [up_na h7, up_na h7, up_na h6, up_na h6]
theorem RL.road (r : RL h I a K LW) (k : KOk K) (ha : a + 11 < 118) {x y : Nat} (hx : x < 7) (hy : y < 7) (hxy : x ≠ y) {v : Int} (hv : 0 ≤ v ∧ v ≤ 99) : RL h (landRoad I a x y v) a (roadF K x y v) LW := by
  have f : ∀ i, (i < 63 ∨ 112 ≤ i) ∧ (i < 120 ∨ 169 ≤ i) → roadF K x y v i = K i := fun i hi => roadF_of hx hy v hi
  have g := roadF_63 (K := K) hx hy v
  have g2 := roadF_120 (K := K) hx hy v
  have e7 := landRoad_7 (I := I) (a := a) hxy v
  have e6 := landRoad_6 (I := I) (a := a) (x := x) (y := y) v
  have o : ∀ b, b ≠ a + 6 → b ≠ a + 7 → landRoad I a x y v b = I b := fun b q1 q2 => landRoad_o v q1 q2
  obtain ⟨r1, r2, ⟨r3, r4, r5⟩, r6, ⟨r9, r10⟩, ⟨r11, r12, r13⟩, r14, r15, r16, r17⟩ := id r
  have cx := bit_a (r17 x) hy
  have cy := bit_a (r17 y) hx
  have b7 : ∀ t : Nat, 0 ≤ landRoad I a x y v (a + 7) t ∧ landRoad I a x y v (a + 7) t < 128 := fun t => by
    rw [e7]
    have := r17 t
    have := cx.1
    have := cy.1
    (repeat' split) <;> omega
  refine r.set k ha (fun i hi => f i (by omega)) (f 183 (by omega)) (f 185 (by omega)) ?_ ⟨o _ (by omega) (by omega), o _ (by omega) (by omega)⟩ (fun b hb => o b (by omega) (by omega)) (fun s hs => ?_) (fun i hi => ?_) (fun q w hq hw => ?_) ?_ ?_ (fun b b1 b2 j => ?_) ?_ ?_ b7
  · rw [o a (by omega) (by omega), f 183 (by omega), f 185 (by omega), f 186 (by omega)]
    exact ⟨r1, r11, r12⟩
  · rw [o (a + 3) (by omega) (by omega), o (a + 4) (by omega) (by omega), f (7 + s) (by omega), f (113 + s) (by omega)]
    exact r3 s hs
  · have h2 := g2 (i / 7) (i % 7) (by omega) (by omega)
    rw [show 7 * (i / 7) + i % 7 = i by omega] at h2
    rw [o (a + 5) (by omega) (by omega), e6, f (14 + i) (by omega), h2]
    refine ⟨(r4 i hi).1, ?_⟩
    have h3 := (r4 i hi).2
    (repeat' split) <;> first | rfl | exact h3 | (exfalso; omega)
  · rw [e7, g q w hq hw]
    by_cases c1 : q = y
    · rw [if_pos c1, cy.2 w hw]
      by_cases c2 : w = x
      · rw [if_pos c2, if_pos (Or.inr ⟨c1, c2⟩)]
      · rw [if_neg c2, if_neg (by omega), r5 y w hy hw, c1]
    · rw [if_neg c1]
      by_cases c3 : q = x
      · rw [if_pos c3, cx.2 w hw]
        by_cases c2 : w = y
        · rw [if_pos c2, if_pos (Or.inl ⟨c3, c2⟩)]
        · rw [if_neg c2, if_neg (by omega), r5 x w hx hw, c3]
      · rw [if_neg c3, if_neg (by omega)]
        exact r5 q w hq hw
  · rw [o (a + 8) (by omega) (by omega), f 112 (by omega), f 181 (by omega), f 182 (by omega)]
    exact r6
  · rw [o a (by omega) (by omega), o (a + 9) (by omega) (by omega), o (a + 10) (by omega) (by omega), f 184 (by omega)]
    refine ⟨r9, fun i hi => ?_⟩
    rw [f (169 + 2 * i) (by omega), f (170 + 2 * i) (by omega)]
    exact r10 i hi
  · by_cases c : b = a + 7
    · rw [c]
      have := b7 j
      unfold inr
      omega
    · by_cases c6 : b = a + 6
      · rw [c6, e6]
        have := r14 (a + 6) (by omega) (by omega) j
        unfold inr at this ⊢
        (repeat' split) <;> omega
      · rw [o b c6 c]
        exact r14 b b1 b2 j
  · rw [o (a + 3) (by omega) (by omega)]
    exact r15
  · rw [o (a + 5) (by omega) (by omega)]
    exact r16
theorem modRoad_K (x y : Nat) (v : Int) : modRoad I 88 x y v 90 = roadF (I 90) x y v := by
  unfold modRoad
  rw [show (120 + (7 * (x : Int) + y)).toNat = 120 + (7 * x + y) by omega, show (120 + (7 * (y : Int) + x)).toNat = 120 + (7 * y + x) by omega, show (63 + (7 * (x : Int) + y)).toNat = 63 + (7 * x + y) by omega, show (63 + (7 * (y : Int) + x)).toNat = 63 + (7 * y + x) by omega]
  show up (up (up (up I 90 (120 + (7 * x + y)) v) 90 (120 + (7 * y + x)) v) 90 (63 + (7 * x + y)) 0) 90 (63 + (7 * y + x)) 0 90 = _
  rw [up_F, up_F, up_F, up_F]
  rfl
theorem modRoad_o {x y v : Int} {b : Nat} (hb : b ≠ 90) : modRoad I 88 x y v b = I b := by
  unfold modRoad
  rw [up_na hb, up_na hb, up_na hb, up_na hb]
/-- one field of the state -/
theorem KOk.one (k : KOk K) {i : Nat} {x : Int} (hi : (i = 112 ∧ 0 ≤ x ∧ x ≤ 999) ∨ (i = 181 ∧ 0 ≤ x ∧ x ≤ 10) ∨ (i = 182 ∧ 0 ≤ x ∧ x ≤ 9) ∨ (i = 184 ∧ x = 0) ∨ (i = 186 ∧ -1 ≤ x ∧ x < K 185)) : KOk (upF K i x) := by
  have f : ∀ j, j ≠ 112 → j ≠ 181 → j ≠ 182 → j ≠ 184 → j ≠ 186 → upF K i x j = K j := fun j q1 q2 q3 q4 q5 => upF_n (by omega)
  obtain ⟨k1, k2, ⟨k3, k4, k5, k6⟩, k7, ⟨k10, k11⟩, k12⟩ := id k
  have g := upF_at K i x
  refine k.set (fun j hj => f j (by omega) (by omega) (by omega) (by omega) (by omega)) (f 183 (by omega) (by omega) (by omega) (by omega) (by omega)) (fun s hs => ?_) (fun j hj => ?_) (fun q w hq hw => ?_) (fun q hq => ?_) ?_ ?_ ?_
  · rw [f (7 + s) (by omega) (by omega) (by omega) (by omega) (by omega), f (113 + s) (by omega) (by omega) (by omega) (by omega) (by omega)]
    exact k3 s hs
  · rw [f (14 + j) (by omega) (by omega) (by omega) (by omega) (by omega), f (63 + j) (by omega) (by omega) (by omega) (by omega) (by omega), f (120 + j) (by omega) (by omega) (by omega) (by omega) (by omega)]
    exact k4 j hj
  · rw [f (63 + (7 * q + w)) (by omega) (by omega) (by omega) (by omega) (by omega), f (63 + (7 * w + q)) (by omega) (by omega) (by omega) (by omega) (by omega)]
    exact k5 q w hq hw
  · rw [f (120 + 8 * q) (by omega) (by omega) (by omega) (by omega) (by omega)]
    exact k6 q hq
  · rw [g 112, g 181, g 182]
    (repeat' split) <;> omega
  · rw [g 184, f 183 (by omega) (by omega) (by omega) (by omega) (by omega)]
    refine ⟨by split <;> omega, fun j hj => ?_⟩
    have hj2 : (j : Int) < K 184 := by
      split at hj <;> omega
    rw [f (169 + 2 * j) (by omega) (by omega) (by omega) (by omega) (by omega), f (170 + 2 * j) (by omega) (by omega) (by omega) (by omega) (by omega)]
    exact k11 j hj2
  · rw [f 185 (by omega) (by omega) (by omega) (by omega) (by omega), g 186]
    split <;> omega
theorem RL.term (r : RL h I a K LW) (k : KOk K) (ha : a + 11 < 118) {w i : Nat} {x : Int} (hi : (w = 0 ∧ i = 112 ∧ 0 ≤ x ∧ x ≤ 999) ∨ (w = 1 ∧ i = 181 ∧ 0 ≤ x ∧ x ≤ 10) ∨ (w = 2 ∧ i = 182 ∧ 0 ≤ x ∧ x ≤ 9)) : RL h (up I (a + 8) w x) a (upF K i x) LW := by
  have f : ∀ j, j ≠ 112 → j ≠ 181 → j ≠ 182 → upF K i x j = K j := fun j q1 q2 q3 => upF_n (by omega)
  have g := upF_at K i x
  have o : ∀ b, b ≠ a + 8 → (up I (a + 8) w x) b = I b := fun b q => up_na q
  have o8 := up_at I (a + 8) w x
  obtain ⟨r1, r2, ⟨r3, r4, r5⟩, r6, ⟨r9, r10⟩, ⟨r11, r12, r13⟩, r14, r15, r16, r17⟩ := id r
  refine r.set k ha (fun i hi => f i (by omega) (by omega) (by omega)) (f 183 (by omega) (by omega) (by omega)) (f 185 (by omega) (by omega) (by omega)) ?_ ⟨o _ (by omega), o _ (by omega)⟩ (fun b hb => o b (by omega)) (fun s hs => ?_) (fun i hi => ?_) (fun q w hq hw => ?_) ?_ ?_ (fun b b1 b2 j => ?_) ?_ ?_ ?_
  · rw [o a (by omega), f 183 (by omega) (by omega) (by omega), f 185 (by omega) (by omega) (by omega), f 186 (by omega) (by omega) (by omega)]
    exact ⟨r1, r11, r12⟩
  · rw [o (a + 3) (by omega), o (a + 4) (by omega), f (7 + s) (by omega) (by omega) (by omega), f (113 + s) (by omega) (by omega) (by omega)]
    exact r3 s hs
  · rw [o (a + 5) (by omega), o (a + 6) (by omega), f (14 + i) (by omega) (by omega) (by omega), f (120 + i) (by omega) (by omega) (by omega)]
    exact r4 i hi
  · rw [o (a + 7) (by omega), f (63 + (7 * q + w)) (by omega) (by omega) (by omega)]
    exact r5 q w hq hw
  · rw [o8, o8, o8, g 112, g 181, g 182]
    refine ⟨?_, ?_, ?_⟩ <;> (repeat' split) <;> omega
  · rw [o a (by omega), o (a + 9) (by omega), o (a + 10) (by omega), f 184 (by omega) (by omega) (by omega)]
    refine ⟨r9, fun i hi => ?_⟩
    rw [f (169 + 2 * i) (by omega) (by omega) (by omega), f (170 + 2 * i) (by omega) (by omega) (by omega)]
    exact r10 i hi
  · by_cases c : b = a + 8
    · rw [c, o8]
      have := r14 (a + 8) (by omega) (by omega) j
      unfold inr at this ⊢
      split <;> omega
    · rw [o b c]
      exact r14 b b1 b2 j
  · rw [o (a + 3) (by omega)]
    exact r15
  · rw [o (a + 5) (by omega)]
    exact r16
  · rw [o (a + 7) (by omega)]
    exact r17
/-- the law in force, or none heard any more -/
theorem RL.fld (r : RL h I a K LW) (k : KOk K) (ha : a + 11 < 118) {w i : Nat} {x : Int} (hi : (w = 14 ∧ i = 186 ∧ -1 ≤ x ∧ x < K 185) ∨ (w = 11 ∧ i = 184 ∧ x = 0)) : RL h (up I a w x) a (upF K i x) LW := by
  have f : ∀ j, j ≠ 186 → j ≠ 184 → upF K i x j = K j := fun j q1 q2 => upF_n (by omega)
  have g := upF_at K i x
  have o : ∀ b, b ≠ a → (up I a w x) b = I b := fun b q => up_na q
  have o0 := up_at I a w x
  have kk := k.2.2.2.2
  obtain ⟨r1, r2, ⟨r3, r4, r5⟩, r6, ⟨r9, r10⟩, ⟨r11, r12, r13⟩, r14, r15, r16, r17⟩ := id r
  refine r.set k ha (fun i hi => f i (by omega) (by omega)) (f 183 (by omega) (by omega)) (f 185 (by omega) (by omega)) ?_ ⟨o _ (by omega), o _ (by omega)⟩ (fun b hb => o b (by omega)) (fun s hs => ?_) (fun i hi => ?_) (fun q w hq hw => ?_) ?_ ?_ (fun b b1 b2 j => ?_) ?_ ?_ ?_
  · rw [o0, o0, o0, g 186, f 183 (by omega) (by omega), f 185 (by omega) (by omega)]
    refine ⟨?_, ?_, ?_⟩
    · rw [if_neg (by omega)]
      exact r1
    · rw [if_neg (by omega)]
      exact r11
    · (repeat' split) <;> first | rfl | exact r12 | (exfalso; omega)
  · rw [o (a + 3) (by omega), o (a + 4) (by omega), f (7 + s) (by omega) (by omega), f (113 + s) (by omega) (by omega)]
    exact r3 s hs
  · rw [o (a + 5) (by omega), o (a + 6) (by omega), f (14 + i) (by omega) (by omega), f (120 + i) (by omega) (by omega)]
    exact r4 i hi
  · rw [o (a + 7) (by omega), f (63 + (7 * q + w)) (by omega) (by omega)]
    exact r5 q w hq hw
  · rw [o (a + 8) (by omega), f 112 (by omega) (by omega), f 181 (by omega) (by omega), f 182 (by omega) (by omega)]
    exact r6
  · rw [o0, o (a + 9) (by omega), o (a + 10) (by omega), g 184]
    refine ⟨?_, fun i hi => ?_⟩
    · (repeat' split) <;> first | rfl | exact r9 | (exfalso; omega)
    · rw [f (169 + 2 * i) (by omega) (by omega), f (170 + 2 * i) (by omega) (by omega)]
      exact r10 i hi
  · by_cases c : b = a
    · rw [c, o0]
      have := r14 a (by omega) (by omega) j
      unfold inr at this ⊢
      split <;> omega
    · rw [o b c]
      exact r14 b b1 b2 j
  · rw [o (a + 3) (by omega)]
    exact r15
  · rw [o (a + 5) (by omega)]
    exact r16
  · rw [o (a + 7) (by omega)]
    exact r17
theorem heardF_at (c : Nat) (u x : Int) (j : Nat) : heardF K c u x j = if j = 184 then (c : Int) + 1 else if j = 170 + 2 * c then x else if j = 169 + 2 * c then u else K j := rfl
theorem heardF_o {c : Nat} (hc : c < 6) (u x : Int) {j : Nat} (h1 : j < 169 ∨ 181 ≤ j) (h2 : j ≠ 184) : heardF K c u x j = K j := by
  rw [heardF_at, if_neg h2, if_neg (by omega), if_neg (by omega)]
theorem heardF_ok (k : KOk K) {c : Nat} (ec : K 184 = (c : Int)) (hc : c < 6) {u x : Int} (hu : 0 ≤ u ∧ u < K 183) (hx : 0 ≤ x ∧ x ≤ 99) : KOk (heardF K c u x) := by
  have f : ∀ j, j < 169 ∨ 181 ≤ j → j ≠ 184 → heardF K c u x j = K j := fun j => heardF_o hc u x
  obtain ⟨k1, k2, ⟨k3, k4, k5, k6⟩, k7, ⟨k10, k11⟩, k12⟩ := id k
  refine k.set (fun j hj => f j (by omega) (by omega)) (f 183 (by omega) (by omega)) (fun s hs => ?_) (fun j hj => ?_) (fun q w hq hw => ?_) (fun q hq => ?_) ?_ ?_ ?_
  · rw [f (7 + s) (by omega) (by omega), f (113 + s) (by omega) (by omega)]
    exact k3 s hs
  · rw [f (14 + j) (by omega) (by omega), f (63 + j) (by omega) (by omega), f (120 + j) (by omega) (by omega)]
    exact k4 j hj
  · rw [f (63 + (7 * q + w)) (by omega) (by omega), f (63 + (7 * w + q)) (by omega) (by omega)]
    exact k5 q w hq hw
  · rw [f (120 + 8 * q) (by omega) (by omega)]
    exact k6 q hq
  · rw [f 112 (by omega) (by omega), f 181 (by omega) (by omega), f 182 (by omega) (by omega)]
    exact k7
  · rw [heardF_at, if_pos rfl, f 183 (by omega) (by omega)]
    refine ⟨by omega, fun j hj => ?_⟩
    rw [heardF_at, heardF_at, if_neg (show ¬ 169 + 2 * j = 184 by omega), if_neg (show ¬ 170 + 2 * j = 184 by omega), if_neg (show ¬ 169 + 2 * j = 170 + 2 * c by omega), if_neg (show ¬ 170 + 2 * j = 169 + 2 * c by omega)]
    by_cases q : j = c
    · rw [if_pos (by omega), if_pos (by omega)]
      exact ⟨hu, hx⟩
    · rw [if_neg (by omega), if_neg (by omega)]
      exact k11 j (by omega)
  · rw [f 185 (by omega) (by omega), f 186 (by omega) (by omega)]
    exact k12
theorem RL.hear (r : RL h I a K LW) (k : KOk K) (ha : a + 11 < 118) {c : Nat} (ec : K 184 = (c : Int)) (hc : c < 6) {u x : Int} (hu : 0 ≤ u ∧ u < K 183) (hx : 0 ≤ x ∧ x ≤ 99) : RL h (up (up (up I (a + 9) c u) (a + 10) c x) a 11 ((c : Int) + 1)) a (heardF K c u x) LW := by
  have k1 := k.1
  have f : ∀ j, j < 169 ∨ 181 ≤ j → j ≠ 184 → heardF K c u x j = K j := fun j => heardF_o hc u x
  have o : ∀ b, b ≠ a → b ≠ a + 9 → b ≠ a + 10 → (up (up (up I (a + 9) c u) (a + 10) c x) a 11 ((c : Int) + 1)) b = I b := fun b q1 q2 q3 => by rw [up_na q1, up_na q3, up_na q2]
  have o0 : ∀ i, (up (up (up I (a + 9) c u) (a + 10) c x) a 11 ((c : Int) + 1)) a i = if i = 11 then (c : Int) + 1 else I a i := fun i => by rw [up_at, up_na (by omega), up_na (by omega)]
  have o9 : ∀ i, (up (up (up I (a + 9) c u) (a + 10) c x) a 11 ((c : Int) + 1)) (a + 9) i = if i = c then u else I (a + 9) i := fun i => by rw [up_na (by omega), up_na (by omega), up_at]
  have o10 : ∀ i, (up (up (up I (a + 9) c u) (a + 10) c x) a 11 ((c : Int) + 1)) (a + 10) i = if i = c then x else I (a + 10) i := fun i => by rw [up_na (by omega), up_at, up_na (by omega)]
  obtain ⟨r1, r2, ⟨r3, r4, r5⟩, r6, ⟨r9, r10⟩, ⟨r11, r12, r13⟩, r14, r15, r16, r17⟩ := id r
  refine r.set k ha (fun i hi => f i (by omega) (by omega)) (f 183 (by omega) (by omega)) (f 185 (by omega) (by omega)) ?_ ⟨o _ (by omega) (by omega) (by omega), o _ (by omega) (by omega) (by omega)⟩ (fun b hb => o b (by omega) (by omega) (by omega)) (fun s hs => ?_) (fun i hi => ?_) (fun q w hq hw => ?_) ?_ ?_ (fun b b1 b2 j => ?_) ?_ ?_ ?_
  · rw [o0, o0, o0, if_neg (by omega), if_neg (by omega), if_neg (by omega), f 183 (by omega) (by omega), f 185 (by omega) (by omega), f 186 (by omega) (by omega)]
    exact ⟨r1, r11, r12⟩
  · rw [o (a + 3) (by omega) (by omega) (by omega), o (a + 4) (by omega) (by omega) (by omega), f (7 + s) (by omega) (by omega), f (113 + s) (by omega) (by omega)]
    exact r3 s hs
  · rw [o (a + 5) (by omega) (by omega) (by omega), o (a + 6) (by omega) (by omega) (by omega), f (14 + i) (by omega) (by omega), f (120 + i) (by omega) (by omega)]
    exact r4 i hi
  · rw [o (a + 7) (by omega) (by omega) (by omega), f (63 + (7 * q + w)) (by omega) (by omega)]
    exact r5 q w hq hw
  · rw [o (a + 8) (by omega) (by omega) (by omega), f 112 (by omega) (by omega), f 181 (by omega) (by omega), f 182 (by omega) (by omega)]
    exact r6
  · rw [o0, if_pos rfl, heardF_at, if_pos rfl]
    refine ⟨rfl, fun i hi => ?_⟩
    rw [o9, o10, heardF_at, heardF_at, if_neg (show ¬ 169 + 2 * i = 184 by omega), if_neg (show ¬ 170 + 2 * i = 184 by omega), if_neg (show ¬ 169 + 2 * i = 170 + 2 * c by omega), if_neg (show ¬ 170 + 2 * i = 169 + 2 * c by omega), (r10 i hi).1, (r10 i hi).2]
    by_cases q : i = c
    · rw [if_pos q, if_pos q, if_pos (by omega), if_pos (by omega)]
      exact ⟨rfl, rfl⟩
    · rw [if_neg q, if_neg q, if_neg (by omega), if_neg (by omega)]
      exact ⟨rfl, rfl⟩
  · by_cases c0 : b = a
    · rw [c0, o0]
      have := r14 a (by omega) (by omega) j
      unfold inr at this ⊢
      split <;> omega
    by_cases c9 : b = a + 9
    · rw [c9, o9]
      have := r14 (a + 9) (by omega) (by omega) j
      unfold inr at this ⊢
      split <;> omega
    by_cases c10 : b = a + 10
    · rw [c10, o10]
      have := r14 (a + 10) (by omega) (by omega) j
      unfold inr at this ⊢
      split <;> omega
    · rw [o b c0 c9 c10]
      exact r14 b b1 b2 j
  · rw [o (a + 3) (by omega) (by omega) (by omega)]
    exact r15
  · rw [o (a + 5) (by omega) (by omega) (by omega)]
    exact r16
  · rw [o (a + 7) (by omega) (by omega) (by omega)]
    exact r17
end P96
