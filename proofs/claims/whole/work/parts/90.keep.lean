/-! The class's moves keep the relation (by program, wip/whole/gen90.py) -/
section P90
variable {h : IH} {I I' : Nat → Nat → Int} {a : Nat} {K K' : Nat → Int} {LW : Nat → Nat × (Nat → Cls)}
theorem KOk.mv (k : KOk K) (e : ∀ i, 7 ≤ i → K' i = K i) (h1 : ∀ u : Nat, (u : Int) < K 183 → 0 ≤ K' u ∧ K' u < K 183) (h2 : ∀ s : Nat, (s : Int) < K 183 → ∃ u : Nat, (u : Int) < K 183 ∧ K' u = s) : KOk K' := by
  obtain ⟨k1, k2, ⟨k3, k4, k5, k6⟩, ⟨k7, k8, k9⟩, ⟨k10, k11⟩, k12, k13⟩ := k
  unfold KOk
  rw [e 183 (by omega), e 112 (by omega), e 181 (by omega), e 182 (by omega), e 184 (by omega), e 185 (by omega), e 186 (by omega)]
  refine ⟨k1, ⟨h1, h2⟩, ⟨fun s hs => ?_, fun i hi => ?_, fun x y hx hy => ?_, fun x hx => ?_⟩, ⟨k7, k8, k9⟩, ⟨k10, fun i hi => ?_⟩, k12, k13⟩
  · rw [e (7 + s) (by omega), e (113 + s) (by omega)]
    exact k3 s hs
  · rw [e (14 + i) (by omega), e (63 + i) (by omega), e (120 + i) (by omega)]
    exact k4 i hi
  · rw [e (63 + (7 * x + y)) (by omega), e (63 + (7 * y + x)) (by omega)]
    exact k5 x y hx hy
  · rw [e (120 + 8 * x) (by omega)]
    exact k6 x hx
  · rw [e (169 + 2 * i) (by omega), e (170 + 2 * i) (by omega)]
    exact k11 i hi
theorem RL.mv (r : RL h I a K LW) (ha : a + 11 < 118) (k' : KOk K') (e : ∀ i, 7 ≤ i → K' i = K i) (hI : ∀ b, b ≠ a + 1 → b ≠ a + 2 → I' b = I b) (h1 : ∀ t : Nat, t < 7 → I' (a + 1) t = if (t : Int) < K 183 then K' t else t) (h2 : ∀ u : Nat, (u : Int) < K 183 → I' (a + 2) (K' u).toNat = u) (h3 : ∀ s : Nat, K 183 ≤ (s : Int) → s < 7 → I' (a + 2) s = s) (hr : ∀ k, inr (I' (a + 1) k) ∧ inr (I' (a + 2) k)) : RL h I' a K' LW := by
  obtain ⟨r1, r2, ⟨r3, r4, r5⟩, ⟨r6, r7, r8⟩, ⟨r9, r10⟩, ⟨r11, r12, r13⟩, r14, r15, r16, r17⟩ := r
  have n := k'.1
  have en := e 183 (by omega)
  unfold RL
  rw [en, e 112 (by omega), e 181 (by omega), e 182 (by omega), e 184 (by omega), e 185 (by omega), e 186 (by omega), hI a (by omega) (by omega), hI (a + 8) (by omega) (by omega)]
  refine ⟨r1, fun t ht => ⟨h1 t ht, ?_⟩, ⟨fun s hs => ?_, fun i hi => ?_, fun x y hx hy => ?_⟩, ⟨r6, r7, r8⟩, ⟨r9, fun i hi => ?_⟩, ⟨r11, r12, fun j hj => ?_⟩, fun b b1 b2 k => ?_, ?_, ?_, ?_⟩
  · by_cases c : (t : Int) < K 183
    · rw [if_pos c]
      have q := atK_ok k' (s := (t : Int)) (by omega)
      have := h2 (atK K' t).toNat (by omega)
      rw [q.2, Int.toNat_natCast] at this
      rw [this]
      omega
    · rw [if_neg c]
      exact h3 t (by omega) ht
  · rw [hI (a + 3) (by omega) (by omega), hI (a + 4) (by omega) (by omega), e (7 + s) (by omega), e (113 + s) (by omega)]
    exact r3 s hs
  · rw [hI (a + 5) (by omega) (by omega), hI (a + 6) (by omega) (by omega), e (14 + i) (by omega), e (120 + i) (by omega)]
    exact r4 i hi
  · rw [hI (a + 7) (by omega) (by omega), e (63 + (7 * x + y)) (by omega)]
    exact r5 x y hx hy
  · rw [hI (a + 9) (by omega) (by omega), hI (a + 10) (by omega) (by omega), e (169 + 2 * i) (by omega), e (170 + 2 * i) (by omega)]
    exact r10 i hi
  · obtain ⟨x, x1, x2, x3⟩ := r13 j hj
    exact ⟨x, x1, x2, x3.fr fun b b1 b2 => hI b (by omega) (by omega)⟩
  · by_cases c1 : b = a + 1
    · rw [c1]
      exact (hr k).1
    · by_cases c2 : b = a + 2
      · rw [c2]
        exact (hr k).2
      · rw [hI b c1 c2]
        exact r14 b b1 b2 k
  · rw [hI (a + 3) (by omega) (by omega)]
    exact r15
  · rw [hI (a + 5) (by omega) (by omega)]
    exact r16
  · rw [hI (a + 7) (by omega) (by omega)]
    exact r17
theorem RL.has (r : RL h I a K LW) (k : KOk K) {u : Nat} (hu : (u : Int) < K 183) : I (a + 1) u = K u := by
  have := k.1
  rw [(r.2.1 u (by omega)).1, if_pos hu]
theorem RL.at_ (r : RL h I a K LW) (k : KOk K) {u : Nat} (hu : (u : Int) < K 183) : I (a + 2) (K u).toNat = u := by
  have h1 := k.1
  have h2 := k.2.1.1 u hu
  rw [r.at (s := K u) (by omega) h2.2, atK_of k hu]
theorem swapF_ok (k : KOk K) {x y : Nat} (hx : (x : Int) < K 183) (hy : (y : Int) < K 183) : KOk (swapF K x y) := by
  have f : ∀ u, swapF K x y u = if u = y then K x else if u = x then K y else K u := fun u => rfl
  refine k.mv (fun i hi => ?_) (fun u hu => ?_) (fun s hs => ?_)
  · have := k.1
    rw [f, if_neg (by omega), if_neg (by omega)]
  · rw [f]
    have h1 := k.2.1.1 x hx
    have h2 := k.2.1.1 y hy
    have h3 := k.2.1.1 u hu
    (repeat' split) <;> omega
  · obtain ⟨u, u1, u2⟩ := k.2.1.2 s hs
    by_cases c1 : u = x
    · exact ⟨y, hy, by rw [f, if_pos rfl, ← c1, u2]⟩
    · by_cases c2 : u = y
      · exact ⟨x, hx, by rw [f, if_neg (fun z => c1 (c2.trans z.symm)), if_pos rfl, ← c2, u2]⟩
      · exact ⟨u, u1, by rw [f, if_neg c2, if_neg c1, u2]⟩
theorem RL.swap (r : RL h I a K LW) (k : KOk K) (ha : a + 11 < 118) {x y : Nat} (hx : (x : Int) < K 183) (hy : (y : Int) < K 183) (hxy : x ≠ y) : RL h (swapI I a x y) a (swapF K x y) LW := by
  have n := k.1
  have f : ∀ u, swapF K x y u = if u = y then K x else if u = x then K y else K u := fun u => rfl
  have ex := r.has k hx
  have ey := r.has k hy
  have bx := k.2.1.1 x hx
  have by_ := k.2.1.1 y hy
  have nxy : (K x).toNat ≠ (K y).toNat := fun z => hxy (k.inj hx hy (by omega))
  have e1 : ∀ t, swapI I a x y (a + 1) t = if t = y then K x else if t = x then K y else I (a + 1) t := fun t => by
    unfold swapI putI
    simp only [Int.toNat_natCast]
    rw [ex, ey, up_na (by omega), up_at, up_na (by omega), up_at]
  have e2 : ∀ t, swapI I a x y (a + 2) t = if t = (K x).toNat then (y : Int) else if t = (K y).toNat then (x : Int) else I (a + 2) t := fun t => by
    unfold swapI putI
    simp only [Int.toNat_natCast]
    rw [ex, ey, up_at, up_na (by omega), up_at, up_na (by omega)]
  refine r.mv ha (swapF_ok k hx hy) (fun i hi => ?_) (fun b b1 b2 => ?_) (fun t ht => ?_) (fun u hu => ?_) (fun s s1 s2 => ?_) (fun q => ?_)
  · rw [f, if_neg (by omega), if_neg (by omega)]
  · unfold swapI putI
    rw [up_na b2, up_na b1, up_na b2, up_na b1]
  · rw [e1, f, (r.2.1 t ht).1]
    (repeat' split) <;> first | rfl | omega
  · have q := r.at_ k hu
    rw [e2, f]
    by_cases c1 : u = y
    · rw [if_pos c1, if_pos rfl, c1]
    · rw [if_neg c1]
      by_cases c2 : u = x
      · rw [if_pos c2, if_neg nxy.symm, if_pos rfl, c2]
      · have b3 := k.2.1.1 u hu
        rw [if_neg c2, if_neg (fun z => c2 (k.inj hu hx (by omega))), if_neg (fun z => c1 (k.inj hu hy (by omega)))]
        exact q
  · rw [e2, if_neg (by omega), if_neg (by omega), (r.2.1 s s2).2, if_neg (by omega)]
  · have i1 := r.2.2.2.2.2.2.1 (a + 1) (by omega) (by omega) q
    have i2 := r.2.2.2.2.2.2.1 (a + 2) (by omega) (by omega) q
    rw [e1, e2]
    unfold inr at i1 i2 ⊢
    refine ⟨?_, ?_⟩ <;> (repeat' split) <;> omega
theorem roundF_ok (k : KOk K) {x y z : Nat} (hx : (x : Int) < K 183) (hy : (y : Int) < K 183) (hz : (z : Int) < K 183) (d1 : x ≠ y) (d2 : y ≠ z) (d3 : x ≠ z) : KOk (roundF K x y z) := by
  have f : ∀ u, roundF K x y z u = if u = x then K z else if u = y then K x else if u = z then K y else K u := fun u => rfl
  refine k.mv (fun i hi => ?_) (fun u hu => ?_) (fun s hs => ?_)
  · have := k.1
    rw [f, if_neg (by omega), if_neg (by omega), if_neg (by omega)]
  · rw [f]
    have h1 := k.2.1.1 x hx
    have h2 := k.2.1.1 y hy
    have h4 := k.2.1.1 z hz
    have h3 := k.2.1.1 u hu
    (repeat' split) <;> omega
  · obtain ⟨u, u1, u2⟩ := k.2.1.2 s hs
    by_cases c1 : u = x
    · exact ⟨y, hy, by rw [f, if_neg (fun z => d1 z.symm), if_pos rfl, ← c1, u2]⟩
    · by_cases c2 : u = y
      · exact ⟨z, hz, by rw [f, if_neg (fun z => d3 z.symm), if_neg (fun z => d2 z.symm), if_pos rfl, ← c2, u2]⟩
      · by_cases c3 : u = z
        · exact ⟨x, hx, by rw [f, if_pos rfl, ← c3, u2]⟩
        · exact ⟨u, u1, by rw [f, if_neg c1, if_neg c2, if_neg c3, u2]⟩
theorem RL.round (r : RL h I a K LW) (k : KOk K) (ha : a + 11 < 118) {x y z : Nat} (hx : (x : Int) < K 183) (hy : (y : Int) < K 183) (hz : (z : Int) < K 183) (d1 : x ≠ y) (d2 : y ≠ z) (d3 : x ≠ z) : RL h (roundI I a x y z) a (roundF K x y z) LW := by
  have n := k.1
  have f : ∀ u, roundF K x y z u = if u = x then K z else if u = y then K x else if u = z then K y else K u := fun u => rfl
  have ex := r.has k hx
  have ey := r.has k hy
  have ez := r.has k hz
  have bx := k.2.1.1 x hx
  have by_ := k.2.1.1 y hy
  have bz := k.2.1.1 z hz
  have nxy : (K x).toNat ≠ (K y).toNat := fun q => d1 (k.inj hx hy (by omega))
  have nyz : (K y).toNat ≠ (K z).toNat := fun q => d2 (k.inj hy hz (by omega))
  have nxz : (K x).toNat ≠ (K z).toNat := fun q => d3 (k.inj hx hz (by omega))
  have e1 : ∀ t, roundI I a x y z (a + 1) t = if t = x then K z else if t = z then K y else if t = y then K x else I (a + 1) t := fun t => by
    unfold roundI putI
    simp only [Int.toNat_natCast]
    rw [ex, ey, ez, up_na (by omega), up_at, up_na (by omega), up_at, up_na (by omega), up_at]
  have e2 : ∀ t, roundI I a x y z (a + 2) t = if t = (K z).toNat then (x : Int) else if t = (K y).toNat then (z : Int) else if t = (K x).toNat then (y : Int) else I (a + 2) t := fun t => by
    unfold roundI putI
    simp only [Int.toNat_natCast]
    rw [ex, ey, ez, up_at, up_na (by omega), up_at, up_na (by omega), up_at, up_na (by omega)]
  refine r.mv ha (roundF_ok k hx hy hz d1 d2 d3) (fun i hi => ?_) (fun b b1 b2 => ?_) (fun t ht => ?_) (fun u hu => ?_) (fun s s1 s2 => ?_) (fun q => ?_)
  · rw [f, if_neg (by omega), if_neg (by omega), if_neg (by omega)]
  · unfold roundI putI
    rw [up_na b2, up_na b1, up_na b2, up_na b1, up_na b2, up_na b1]
  · rw [e1, f, (r.2.1 t ht).1]
    (repeat' split) <;> first | rfl | omega
  · have q := r.at_ k hu
    rw [e2, f]
    by_cases c1 : u = x
    · rw [if_pos c1, if_pos rfl, c1]
    · rw [if_neg c1]
      by_cases c2 : u = y
      · rw [if_pos c2, if_neg nxz, if_neg nxy, if_pos rfl, c2]
      · rw [if_neg c2]
        by_cases c3 : u = z
        · rw [if_pos c3, if_neg nyz, if_pos rfl, c3]
        · have b3 := k.2.1.1 u hu
          rw [if_neg c3, if_neg (fun z => c3 (k.inj hu hz (by omega))), if_neg (fun z => c2 (k.inj hu hy (by omega))), if_neg (fun z => c1 (k.inj hu hx (by omega)))]
          exact q
  · rw [e2, if_neg (by omega), if_neg (by omega), if_neg (by omega), (r.2.1 s s2).2, if_neg (by omega)]
  · have i1 := r.2.2.2.2.2.2.1 (a + 1) (by omega) (by omega) q
    have i2 := r.2.2.2.2.2.2.1 (a + 2) (by omega) (by omega) q
    rw [e1, e2]
    unfold inr at i1 i2 ⊢
    refine ⟨?_, ?_⟩ <;> (repeat' split) <;> omega
/-- the answers -/
theorem RL.swapR_ok (r : RL h I a K LW) (k : KOk K) (hA : LwA K LW) (x y : Int) : swapR h I a x y = swapV K (lvOf K LW) x y := by
  have n := k.1
  unfold swapR swapV
  rw [r.1]
  by_cases c1 : x = y
  · rw [if_pos c1, if_pos c1]
  rw [if_neg c1, if_neg c1]
  by_cases c2 : 0 ≤ x ∧ x < K 183
  case neg => rw [if_pos c2, if_neg (show ¬ ((0 ≤ x ∧ x < K 183) ∧ (0 ≤ y ∧ y < K 183)) from fun z => c2 z.1)]
  rw [if_neg (notnot c2)]
  by_cases c3 : 0 ≤ y ∧ y < K 183
  case neg => rw [if_pos c3, if_neg (show ¬ ((0 ≤ x ∧ x < K 183) ∧ (0 ≤ y ∧ y < K 183)) from fun z => c3 z.2)]
  rw [if_neg (notnot c3), if_pos (show (0 ≤ x ∧ x < K 183) ∧ (0 ≤ y ∧ y < K 183) from ⟨c2, c3⟩)]
  have ex := r.has k (u := x.toNat) (by omega)
  have ey := r.has k (u := y.toNat) (by omega)
  have bx := k.2.1.1 x.toNat (by omega)
  have by_ := k.2.1.1 y.toNat (by omega)
  rw [ex, ey, r.send k hA (by omega) (by omega) (by omega), r.send k hA (by omega) (by omega) (by omega)]
  rcases sendK_01 (K := K) (L := lvOf K LW) (K x.toNat) x y with q | q
  · rw [if_pos q, if_neg (show ¬ canSw K (lvOf K LW) x y from fun z => by rw [z.1] at q; exact absurd q (by decide))]
  · rw [if_neg (by rw [q]; decide)]
    rcases sendK_01 (K := K) (L := lvOf K LW) (K y.toNat) y x with q2 | q2
    · rw [if_pos q2, if_neg (show ¬ canSw K (lvOf K LW) x y from fun z => by rw [z.2] at q2; exact absurd q2 (by decide))]
    · rw [if_neg (by rw [q2]; decide), if_pos (show canSw K (lvOf K LW) x y from ⟨q, q2⟩)]
theorem RL.roundR_ok (r : RL h I a K LW) (k : KOk K) (hA : LwA K LW) (x y z : Int) : roundR h I a x y z = roundV K (lvOf K LW) x y z := by
  have n := k.1
  unfold roundR roundV
  rw [r.1]
  by_cases c1 : x = y
  · rw [if_pos c1, if_pos (show x = y ∨ y = z ∨ x = z from Or.inl c1)]
  rw [if_neg c1]
  by_cases c2 : y = z
  · rw [if_pos c2, if_pos (show x = y ∨ y = z ∨ x = z from Or.inr (Or.inl c2))]
  rw [if_neg c2]
  by_cases c3 : x = z
  · rw [if_pos c3, if_pos (show x = y ∨ y = z ∨ x = z from Or.inr (Or.inr c3))]
  rw [if_neg c3, if_neg (show ¬ (x = y ∨ y = z ∨ x = z) by omega)]
  by_cases d1 : 0 ≤ x ∧ x < K 183
  case neg => rw [if_pos d1, if_neg (show ¬ ((0 ≤ x ∧ x < K 183) ∧ (0 ≤ y ∧ y < K 183) ∧ (0 ≤ z ∧ z < K 183)) from fun q => d1 q.1)]
  rw [if_neg (notnot d1)]
  by_cases d2 : 0 ≤ y ∧ y < K 183
  case neg => rw [if_pos d2, if_neg (show ¬ ((0 ≤ x ∧ x < K 183) ∧ (0 ≤ y ∧ y < K 183) ∧ (0 ≤ z ∧ z < K 183)) from fun q => d2 q.2.1)]
  rw [if_neg (notnot d2)]
  by_cases d3 : 0 ≤ z ∧ z < K 183
  case neg => rw [if_pos d3, if_neg (show ¬ ((0 ≤ x ∧ x < K 183) ∧ (0 ≤ y ∧ y < K 183) ∧ (0 ≤ z ∧ z < K 183)) from fun q => d3 q.2.2)]
  rw [if_neg (notnot d3), if_pos (show (0 ≤ x ∧ x < K 183) ∧ (0 ≤ y ∧ y < K 183) ∧ (0 ≤ z ∧ z < K 183) from ⟨d1, d2, d3⟩)]
  have ex := r.has k (u := x.toNat) (by omega)
  have ey := r.has k (u := y.toNat) (by omega)
  have ez := r.has k (u := z.toNat) (by omega)
  have bx := k.2.1.1 x.toNat (by omega)
  have by_ := k.2.1.1 y.toNat (by omega)
  have bz := k.2.1.1 z.toNat (by omega)
  rw [ex, ey, ez, r.send k hA (by omega) (by omega) (by omega), r.send k hA (by omega) (by omega) (by omega), r.send k hA (by omega) (by omega) (by omega)]
  rcases sendK_01 (K := K) (L := lvOf K LW) (K x.toNat) x y with q | q
  · rw [if_pos q, if_neg (show ¬ canRd K (lvOf K LW) x y z from fun w => by rw [w.1] at q; exact absurd q (by decide))]
  · rw [if_neg (by rw [q]; decide)]
    rcases sendK_01 (K := K) (L := lvOf K LW) (K y.toNat) y z with q2 | q2
    · rw [if_pos q2, if_neg (show ¬ canRd K (lvOf K LW) x y z from fun w => by rw [w.2.1] at q2; exact absurd q2 (by decide))]
    · rw [if_neg (by rw [q2]; decide)]
      rcases sendK_01 (K := K) (L := lvOf K LW) (K z.toNat) z x with q3 | q3
      · rw [if_pos q3, if_neg (show ¬ canRd K (lvOf K LW) x y z from fun w => by rw [w.2.2] at q3; exact absurd q3 (by decide))]
      · rw [if_neg (by rw [q3]; decide), if_pos (show canRd K (lvOf K LW) x y z from ⟨q, q2, q3⟩)]
end P90
