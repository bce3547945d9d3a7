/-! Closings, roads, years keep the relation (by program, wip/whole/gen91.py) -/
theorem firstAt_cg {f g : Nat → Int} {s : Int} : ∀ (k t : Nat), (∀ u, t ≤ u → u < t + k → f u = g u) → firstAt f s t k = firstAt g s t k
  | 0, t, _ => rfl
  | k + 1, t, e => by
    rw [firstAt_s, firstAt_s, e t (Nat.le_refl t) (by omega), firstAt_cg k (t + 1) fun u h1 h2 => e u (by omega) (by omega)]
theorem bits_x : ((List.range 128).all fun v => (List.range 7).all fun y => decide (0 ≤ ixor (v : Int) (ishl 1 (y : Int)) ∧ ixor (v : Int) (ishl 1 (y : Int)) < 128) && (List.range 7).all fun j => decide (iand (ishr (ixor (v : Int) (ishl 1 (y : Int))) (j : Int)) 1 = if j = y then 1 - iand (ishr (v : Int) (y : Int)) 1 else iand (ishr (v : Int) (j : Int)) 1)) = true := by decide +kernel
theorem bits_a : ((List.range 128).all fun v => (List.range 7).all fun y => decide (0 ≤ iand (v : Int) (ixor (ishl 1 (y : Int)) (-1)) ∧ iand (v : Int) (ixor (ishl 1 (y : Int)) (-1)) < 128) && (List.range 7).all fun j => decide (iand (ishr (iand (v : Int) (ixor (ishl 1 (y : Int)) (-1))) (j : Int)) 1 = if j = y then 0 else iand (ishr (v : Int) (j : Int)) 1)) = true := by decide +kernel
theorem bit_x {v : Int} (hv : 0 ≤ v ∧ v < 128) {y : Nat} (hy : y < 7) : (0 ≤ ixor v (ishl 1 (y : Int)) ∧ ixor v (ishl 1 (y : Int)) < 128) ∧ ∀ j : Nat, j < 7 → iand (ishr (ixor v (ishl 1 (y : Int))) (j : Int)) 1 = if j = y then 1 - iand (ishr v (y : Int)) 1 else iand (ishr v (j : Int)) 1 := by
  obtain ⟨n, rfl⟩ : ∃ n : Nat, v = (n : Int) := ⟨v.toNat, by omega⟩
  have h1 := List.all_eq_true.mp (List.all_eq_true.mp bits_x n (List.mem_range.mpr (by omega))) y (List.mem_range.mpr hy)
  rw [Bool.and_eq_true] at h1
  exact ⟨of_decide_eq_true h1.1, fun j hj => of_decide_eq_true (List.all_eq_true.mp h1.2 j (List.mem_range.mpr hj))⟩
theorem bit_a {v : Int} (hv : 0 ≤ v ∧ v < 128) {y : Nat} (hy : y < 7) : (0 ≤ iand v (ixor (ishl 1 (y : Int)) (-1)) ∧ iand v (ixor (ishl 1 (y : Int)) (-1)) < 128) ∧ ∀ j : Nat, j < 7 → iand (ishr (iand v (ixor (ishl 1 (y : Int)) (-1))) (j : Int)) 1 = if j = y then 0 else iand (ishr v (j : Int)) 1 := by
  obtain ⟨n, rfl⟩ : ∃ n : Nat, v = (n : Int) := ⟨v.toNat, by omega⟩
  have h1 := List.all_eq_true.mp (List.all_eq_true.mp bits_a n (List.mem_range.mpr (by omega))) y (List.mem_range.mpr hy)
  rw [Bool.and_eq_true] at h1
  exact ⟨of_decide_eq_true h1.1, fun j hj => of_decide_eq_true (List.all_eq_true.mp h1.2 j (List.mem_range.mpr hj))⟩
section P91
variable {h : IH} {I I' : Nat → Nat → Int} {a : Nat} {K K' : Nat → Int} {LW : Nat → Nat × (Nat → Cls)}
theorem KOk.set (k : KOk K) (e7 : ∀ i, i < 7 → K' i = K i) (e183 : K' 183 = K 183) (h3 : ∀ s, s < 7 → (0 ≤ K' (7 + s) ∧ K' (7 + s) ≤ 9) ∧ (0 ≤ K' (113 + s) ∧ K' (113 + s) ≤ 9)) (h4 : ∀ i, i < 49 → (0 ≤ K' (14 + i) ∧ K' (14 + i) ≤ 99) ∧ (K' (63 + i) = 0 ∨ K' (63 + i) = 1) ∧ (0 ≤ K' (120 + i) ∧ K' (120 + i) ≤ 99)) (h5 : ∀ x y, x < 7 → y < 7 → K' (63 + (7 * x + y)) = K' (63 + (7 * y + x))) (h6 : ∀ x, x < 7 → K' (120 + 8 * x) = 0) (h7 : (0 ≤ K' 112 ∧ K' 112 ≤ 999) ∧ (0 ≤ K' 181 ∧ K' 181 ≤ 10) ∧ (0 ≤ K' 182 ∧ K' 182 ≤ 9)) (h8 : (0 ≤ K' 184 ∧ K' 184 ≤ 6) ∧ ∀ i : Nat, (i : Int) < K' 184 → (0 ≤ K' (169 + 2 * i) ∧ K' (169 + 2 * i) < K' 183) ∧ (0 ≤ K' (170 + 2 * i) ∧ K' (170 + 2 * i) ≤ 99)) (h9 : (0 ≤ K' 185 ∧ K' 185 ≤ 6) ∧ (-1 ≤ K' 186 ∧ K' 186 < K' 185)) : KOk K' := by
  refine ⟨by rw [e183]; exact k.1, ⟨fun u hu => ?_, fun s hs => ?_⟩, ⟨h3, h4, h5, h6⟩, h7, h8, h9⟩
  · have := k.1
    rw [e183] at hu ⊢
    rw [e7 u (by omega)]
    exact k.2.1.1 u hu
  · have := k.1
    rw [e183] at hs
    obtain ⟨u, u1, u2⟩ := k.2.1.2 s hs
    exact ⟨u, by rw [e183]; exact u1, by rw [e7 u (by omega)]; exact u2⟩
theorem atK_cg (n : 0 ≤ K 183 ∧ K 183 ≤ 7) (e7 : ∀ i, i < 7 → K' i = K i) (e183 : K' 183 = K 183) (s : Int) : atK K' s = atK K s := by
  unfold atK
  rw [e183, firstAt_cg (f := K') (g := K) _ 0 fun u _ hu => e7 u (by omega)]
theorem RL.set (r : RL h I a K LW) (k : KOk K) (ha : a + 11 < 118) (e7 : ∀ i, i < 7 → K' i = K i) (e183 : K' 183 = K 183) (e185 : K' 185 = K 185) (h0 : I' a 0 = K' 183 ∧ I' a 13 = K' 185 ∧ I' a 14 = K' 186) (h12 : I' (a + 1) = I (a + 1) ∧ I' (a + 2) = I (a + 2)) (ht : ∀ b, 118 ≤ b → I' b = I b) (h3 : ∀ s, s < 7 → I' (a + 3) s = K' (7 + s) ∧ I' (a + 4) s = K' (113 + s)) (h5 : ∀ i, i < 49 → I' (a + 5) i = K' (14 + i) ∧ I' (a + 6) i = K' (120 + i)) (h7 : ∀ x y : Nat, x < 7 → y < 7 → iand (ishr (I' (a + 7) x) y) 1 = K' (63 + (7 * x + y))) (h8 : I' (a + 8) 0 = K' 112 ∧ I' (a + 8) 1 = K' 181 ∧ I' (a + 8) 2 = K' 182) (h9 : I' a 11 = K' 184 ∧ ∀ i, i < 6 → I' (a + 9) i = K' (169 + 2 * i) ∧ I' (a + 10) i = K' (170 + 2 * i)) (hr : ∀ b, a ≤ b → b ≤ a + 11 → ∀ k, inr (I' b k)) (b3 : ∀ k, 0 ≤ I' (a + 3) k ∧ I' (a + 3) k ≤ 9) (b5 : ∀ k, 0 ≤ I' (a + 5) k ∧ I' (a + 5) k ≤ 99) (b7 : ∀ x : Nat, 0 ≤ I' (a + 7) x ∧ I' (a + 7) x < 128) : RL h I' a K' LW := by
  refine ⟨h0.1, fun t q => ?_, ⟨h3, h5, h7⟩, h8, h9, ⟨h0.2.1, h0.2.2, fun j hj => ?_⟩, hr, b3, b5, b7⟩
  · rw [h12.1, h12.2, e183, atK_cg k.1 e7 e183, e7 t q]
    exact r.2.1 t q
  · rw [e185] at hj
    obtain ⟨x, x1, x2, x3⟩ := r.2.2.2.2.2.1.2.2 j hj
    exact ⟨x, x1, x2, x3.fr fun b c1 c2 => ht b (by omega)⟩
/-- a road is closed or opened -/
theorem closeF_at {x y : Nat} (hx : x < 7) (hy : y < 7) (hxy : x ≠ y) (q w : Nat) (hq : q < 7) (hw : w < 7) : closeF K x y (63 + (7 * q + w)) = if (q = x ∧ w = y) ∨ (q = y ∧ w = x) then 1 - K (63 + (7 * x + y)) else K (63 + (7 * q + w)) := by
  show (if 63 + (7 * q + w) = 63 + (7 * (y : Int) + x).toNat then 1 - K (63 + (7 * (x : Int) + y).toNat) else if 63 + (7 * q + w) = 63 + (7 * (x : Int) + y).toNat then 1 - K (63 + (7 * (x : Int) + y).toNat) else K (63 + (7 * q + w))) = _
  rw [show (7 * (x : Int) + y).toNat = 7 * x + y by omega, show (7 * (y : Int) + x).toNat = 7 * y + x by omega]
  (repeat' split) <;> first | rfl | (exfalso; omega)
theorem closeF_of {x y : Nat} (hx : x < 7) (hy : y < 7) {i : Nat} (hi : i < 63 ∨ 112 ≤ i) : closeF K x y i = K i := by
  show (if i = 63 + (7 * (y : Int) + x).toNat then 1 - K (63 + (7 * (x : Int) + y).toNat) else if i = 63 + (7 * (x : Int) + y).toNat then 1 - K (63 + (7 * (x : Int) + y).toNat) else K i) = _
  rw [if_neg (by omega), if_neg (by omega)]
theorem closeF_ok (k : KOk K) {x y : Nat} (hx : x < 7) (hy : y < 7) (hxy : x ≠ y) : KOk (closeF K x y) := by
  have f : ∀ i, i < 63 ∨ 112 ≤ i → closeF K x y i = K i := fun i hi => closeF_of hx hy hi
  have g := closeF_at (K := K) hx hy hxy
  obtain ⟨k1, k2, ⟨k3, k4, k5, k6⟩, k7, ⟨k10, k11⟩, k12⟩ := id k
  have sym := k5 x y hx hy
  refine k.set (fun i hi => f i (by omega)) (f 183 (by omega)) (fun s hs => ?_) (fun i hi => ?_) (fun q w hq hw => ?_) (fun q hq => ?_) ?_ ?_ ?_
  · rw [f _ (by omega), f _ (by omega)]
    exact k3 s hs
  · rw [f (14 + i) (by omega), f (120 + i) (by omega)]
    refine ⟨(k4 i hi).1, ?_, (k4 i hi).2.2⟩
    have := g (i / 7) (i % 7) (by omega) (by omega)
    rw [show 7 * (i / 7) + i % 7 = i by omega] at this
    rw [this]
    have h1 := (k4 i hi).2.1
    have h2 := (k4 (7 * x + y) (by omega)).2.1
    split <;> omega
  · rw [g q w hq hw, g w q hw hq, k5 q w hq hw]
    (repeat' split) <;> first | rfl | (exfalso; omega)
  · rw [f _ (by omega)]
    exact k6 q hq
  · rw [f 112 (by omega), f 181 (by omega), f 182 (by omega)]
    exact k7
  · rw [f 184 (by omega), f 183 (by omega)]
    refine ⟨k10, fun i hi => ?_⟩
    rw [f _ (by omega), f _ (by omega)]
    exact k11 i hi
  · rw [f 185 (by omega), f 186 (by omega)]
    exact k12
theorem landTurn_7 {x y : Nat} (hxy : x ≠ y) (t : Nat) : landTurn I a x y (a + 7) t = if t = y then ixor (I (a + 7) y) (ishl 1 x) else if t = x then ixor (I (a + 7) x) (ishl 1 y) else I (a + 7) t := by
  unfold landTurn
  simp only [Int.toNat_natCast]
  by_cases c : t = y
  · rw [up_at, if_pos c, if_pos c, up_ni (fun z => hxy z.symm)]
  · rw [up_at, if_neg c, if_neg c, up_at]
theorem RL.close (r : RL h I a K LW) (k : KOk K) (ha : a + 11 < 118) {x y : Nat} (hx : x < 7) (hy : y < 7) (hxy : x ≠ y) : RL h (landTurn I a x y) a (closeF K x y) LW := by
  have f : ∀ i, i < 63 ∨ 112 ≤ i → closeF K x y i = K i := fun i hi => closeF_of hx hy hi
  have g := closeF_at (K := K) hx hy hxy
  have e7 := landTurn_7 (I := I) (a := a) hxy
  have o : ∀ b, b ≠ a + 7 → landTurn I a x y b = I b := fun b hb => by
    unfold landTurn
    rw [up_na hb, up_na hb]
  obtain ⟨r1, r2, ⟨r3, r4, r5⟩, r6, ⟨r9, r10⟩, ⟨r11, r12, r13⟩, r14, r15, r16, r17⟩ := id r
  have cx := bit_x (r17 x) hy
  have cy := bit_x (r17 y) hx
  have sym := k.2.2.1.2.2.1 x y hx hy
  have b7 : ∀ t : Nat, 0 ≤ landTurn I a x y (a + 7) t ∧ landTurn I a x y (a + 7) t < 128 := fun t => by
    rw [e7]
    have := r17 t
    have := cx.1
    have := cy.1
    (repeat' split) <;> omega
  refine r.set k ha (fun i hi => f i (by omega)) (f 183 (by omega)) (f 185 (by omega)) ?_ ⟨o _ (by omega), o _ (by omega)⟩ (fun b hb => o b (by omega)) (fun s hs => ?_) (fun i hi => ?_) (fun q w hq hw => ?_) ?_ ?_ (fun b b1 b2 j => ?_) ?_ ?_ b7
  · rw [o a (by omega), f 183 (by omega), f 185 (by omega), f 186 (by omega)]
    exact ⟨r1, r11, r12⟩
  · rw [o _ (by omega), o _ (by omega), f _ (by omega), f _ (by omega)]
    exact r3 s hs
  · rw [o _ (by omega), o _ (by omega), f _ (by omega), f _ (by omega)]
    exact r4 i hi
  · rw [e7, g q w hq hw]
    by_cases c1 : q = y
    · rw [if_pos c1, cy.2 w hw]
      by_cases c2 : w = x
      · rw [if_pos c2, if_pos (Or.inr ⟨c1, c2⟩), r5 y x hy hx, sym]
      · rw [if_neg c2, if_neg (by omega), r5 y w hy hw, c1]
    · rw [if_neg c1]
      by_cases c3 : q = x
      · rw [if_pos c3, cx.2 w hw]
        by_cases c2 : w = y
        · rw [if_pos c2, if_pos (Or.inl ⟨c3, c2⟩), r5 x y hx hy]
        · rw [if_neg c2, if_neg (by omega), r5 x w hx hw, c3]
      · rw [if_neg c3, if_neg (by omega)]
        exact r5 q w hq hw
  · rw [o _ (by omega), f _ (by omega), f _ (by omega), f _ (by omega)]
    exact r6
  · rw [o _ (by omega), o _ (by omega), o _ (by omega), f _ (by omega)]
    refine ⟨r9, fun i hi => ?_⟩
    rw [f _ (by omega), f _ (by omega)]
    exact r10 i hi
  · by_cases c : b = a + 7
    · rw [c]
      have := b7 j
      unfold inr
      omega
    · rw [o b c]
      exact r14 b b1 b2 j
  · rw [o _ (by omega)]
    exact r15
  · rw [o _ (by omega)]
    exact r16
theorem RL.closeR_ok (r : RL h I a K LW) (k : KOk K) (x y : Int) : closeR I a x y = closeV K x y := by
  have n := k.1
  unfold closeR closeV milesK
  rw [r.1]
  by_cases c1 : x = y
  · rw [if_pos c1, if_pos c1]
  rw [if_neg c1, if_neg c1]
  by_cases c2 : 0 ≤ x ∧ x < K 183
  case neg => rw [if_pos c2, if_neg (show ¬ ((0 ≤ x ∧ x < K 183) ∧ (0 ≤ y ∧ y < K 183)) from fun z => c2 z.1)]
  rw [if_neg (notnot c2)]
  by_cases c3 : 0 ≤ y ∧ y < K 183
  case neg => rw [if_pos c3, if_neg (show ¬ ((0 ≤ x ∧ x < K 183) ∧ (0 ≤ y ∧ y < K 183)) from fun z => c3 z.2)]
  rw [if_neg (notnot c3), if_pos (show (0 ≤ x ∧ x < K 183) ∧ (0 ≤ y ∧ y < K 183) from ⟨c2, c3⟩)]
  obtain ⟨x, rfl⟩ : ∃ x' : Nat, x = (x' : Int) := ⟨x.toNat, by omega⟩
  obtain ⟨y, rfl⟩ : ∃ y' : Nat, y = (y' : Int) := ⟨y.toNat, by omega⟩
  rw [show ((x : Int) * 7 + y).toNat = 7 * x + y by omega, show (7 * (x : Int) + y).toNat = 7 * x + y by omega, (r.2.2.1.2.1 (7 * x + y) (by omega)).2]
  by_cases c4 : K (120 + (7 * x + y)) = 0
  · rw [if_pos c4, if_pos c4]
  rw [if_neg c4, if_neg c4, Int.toNat_natCast, landTurn_7 (fun z => c1 (by omega)), if_neg (fun z => c1 (by omega)), if_pos rfl, (bit_x (r.2.2.2.2.2.2.2.2.2 x) (y := y) (by omega)).2 y (by omega), if_pos rfl, r.2.2.1.2.2 x y (by omega) (by omega)]
end P91
