/-! A year keeps the relation (by program, wip/whole/gen92.py) -/
theorem passI_r3 {I : Nat → Nat → Int} {a : Nat} {f : Nat → Int} : ∀ (c s : Nat), passI I a f c (a + 3) s = if s < c then f s else I (a + 3) s
  | 0, s => by rw [if_neg (by omega)]; rfl
  | c + 1, s => by
    unfold passI
    rw [up_at]
    by_cases q : s = c
    · rw [if_pos q, if_pos (by omega), q]
    · rw [if_neg q, up_na (show a + 3 ≠ a + 5 by omega), passI_r3 c s]
      by_cases q2 : s < c
      · rw [if_pos q2, if_pos (by omega)]
      · rw [if_neg q2, if_neg (by omega)]
theorem passI_r5 {I : Nat → Nat → Int} {a : Nat} {f : Nat → Int} (hr : ∀ u : Nat, u < 7 → 0 ≤ I (a + 1) u ∧ I (a + 1) u < 7) : ∀ (c i : Nat), c ≤ 7 → passI I a f c (a + 5) i = if i / 7 < c ∧ I (a + 1) (i / 7) = ((i % 7 : Nat) : Int) then imin (I (a + 5) i + 1) 99 else I (a + 5) i
  | 0, i, _ => by rw [if_neg (by omega)]; rfl
  | c + 1, i, hc => by
    have hx := hr c (by omega)
    unfold passI
    rw [up_na (show a + 5 ≠ a + 3 by omega), up_at]
    by_cases q : i = c * 7 + (I (a + 1) c).toNat
    · have h1 : i / 7 = c := by omega
      have h2 : i % 7 = (I (a + 1) c).toNat := by omega
      rw [if_pos q, ← q, passI_r5 hr c i (by omega), if_neg (fun z => by have := z.1; omega), if_pos ⟨by omega, by rw [h1, h2]; omega⟩]
    · rw [if_neg q, passI_r5 hr c i (by omega)]
      by_cases q2 : i / 7 < c ∧ I (a + 1) (i / 7) = ((i % 7 : Nat) : Int)
      · rw [if_pos q2, if_pos ⟨by omega, q2.2⟩]
      · rw [if_neg q2, if_neg]
        intro z
        by_cases q3 : i / 7 = c
        · have := z.2
          rw [q3] at this
          omega
        · exact q2 ⟨by have := z.1; omega, z.2⟩
section P92
variable {h : IH} {I I' : Nat → Nat → Int} {a n : Nat} {K K' : Nat → Int} {L : LwV} {LW : Nat → Nat × (Nat → Cls)}
theorem hdF_lo {F : Nat → Int} {t i : Nat} (hi : i < 14 ∨ 63 ≤ i) : hdF F t n i = F i := by
  unfold hdF
  rw [if_neg (fun z => by have := z.1; omega)]
theorem hdF_14 {F : Nat → Int} {i : Nat} (hi : i < 49) : hdF F 0 n (14 + i) = if i / 7 < n ∧ F (i / 7) = ((i % 7 : Nat) : Int) then imin (F (14 + i) + 1) 99 else F (14 + i) := by
  unfold hdF
  rw [show 14 + i - 14 = i by omega]
  by_cases c : i / 7 < n ∧ F (i / 7) = ((i % 7 : Nat) : Int)
  · rw [if_pos (show (14 ≤ 14 + i ∧ 14 + i < 63) ∧ (0 ≤ i / 7 ∧ i / 7 < n) ∧ F (i / 7) = ((i % 7 : Nat) : Int) from ⟨by omega, ⟨by omega, c.1⟩, c.2⟩), if_pos c]
    unfold imin
    (repeat' split) <;> omega
  · rw [if_neg c, if_neg (fun z => c ⟨z.2.1.2, z.2.2⟩)]
theorem passK_at (i : Nat) (hn : n ≤ 7) (h1 : i < 7 ∨ 63 ≤ i) (h2 : i ≠ 112) : passK K L n i = K i := by
  show (if i = 112 then K 112 + 1 else if 7 + 0 ≤ i ∧ i < 7 + n then altK K L (atK K ((i - 7 : Nat) : Int)) ((i - 7 : Nat) : Int) else hdF K 0 n i) = K i
  rw [if_neg h2, if_neg (by omega), hdF_lo (by omega)]
theorem passK_112 : passK K L n 112 = K 112 + 1 := by
  show (if (112 : Nat) = 112 then K 112 + 1 else blF (hdF K 0 n) (fun s => altK K L (atK K (s : Int)) (s : Int)) 0 n 112) = K 112 + 1
  rw [if_pos rfl]
theorem passK_7 {s : Nat} (hs : s < 7) : passK K L n (7 + s) = if s < n then altK K L (atK K (s : Int)) (s : Int) else K (7 + s) := by
  show (if 7 + s = 112 then K 112 + 1 else if 7 + 0 ≤ 7 + s ∧ 7 + s < 7 + n then altK K L (atK K ((7 + s - 7 : Nat) : Int)) ((7 + s - 7 : Nat) : Int) else hdF K 0 n (7 + s)) = _
  rw [if_neg (by omega), show 7 + s - 7 = s by omega]
  by_cases c : s < n
  · rw [if_pos (by omega), if_pos c]
  · rw [if_neg (by omega), if_neg c, hdF_lo (by omega)]
theorem passK_14 {i : Nat} (hn : n ≤ 7) (hi : i < 49) : passK K L n (14 + i) = if i / 7 < n ∧ K (i / 7) = ((i % 7 : Nat) : Int) then imin (K (14 + i) + 1) 99 else K (14 + i) := by
  rw [← hdF_14 hi]
  show (if 14 + i = 112 then K 112 + 1 else if 7 + 0 ≤ 14 + i ∧ 14 + i < 7 + n then altK K L (atK K ((14 + i - 7 : Nat) : Int)) ((14 + i - 7 : Nat) : Int) else hdF K 0 n (14 + i)) = _
  rw [if_neg (by omega), if_neg (by omega)]
theorem imin_99 {x : Int} (h : 0 ≤ x ∧ x ≤ 99) : 0 ≤ imin (x + 1) 99 ∧ imin (x + 1) 99 ≤ 99 := by
  unfold imin
  split <;> omega
theorem passK_ok (k : KOk K) (hn : (n : Int) = K 183) (hy : K 112 < 999) : KOk (passK K L n) := by
  have k1 := k.1
  have f : ∀ i, i < 7 ∨ 63 ≤ i → i ≠ 112 → passK K L n i = K i := fun i => passK_at i (by omega)
  obtain ⟨-, -, ⟨k3, k4, k5, k6⟩, k7, ⟨k10, k11⟩, k12⟩ := id k
  refine k.set (fun i hi => f i (by omega) (by omega)) (f 183 (by omega) (by omega)) (fun s hs => ?_) (fun i hi => ?_) (fun q w hq hw => ?_) (fun q hq => ?_) ?_ ?_ ?_
  · rw [passK_7 hs, f (113 + s) (by omega) (by omega)]
    refine ⟨?_, (k3 s hs).2⟩
    split
    · exact altK_in k (by omega)
    · exact (k3 s hs).1
  · rw [passK_14 (by omega) hi, f (63 + i) (by omega) (by omega), f (120 + i) (by omega) (by omega)]
    refine ⟨?_, (k4 i hi).2⟩
    split
    · exact imin_99 (k4 i hi).1
    · exact (k4 i hi).1
  · rw [f (63 + (7 * q + w)) (by omega) (by omega), f (63 + (7 * w + q)) (by omega) (by omega)]
    exact k5 q w hq hw
  · rw [f (120 + 8 * q) (by omega) (by omega)]
    exact k6 q hq
  · rw [passK_112, f 181 (by omega) (by omega), f 182 (by omega) (by omega)]
    omega
  · rw [f 184 (by omega) (by omega), f 183 (by omega) (by omega)]
    refine ⟨k10, fun i hi => ?_⟩
    rw [f (169 + 2 * i) (by omega) (by omega), f (170 + 2 * i) (by omega) (by omega)]
    exact k11 i hi
  · rw [f 185 (by omega) (by omega), f 186 (by omega) (by omega)]
    exact k12
theorem RL.has7 (r : RL h I a K LW) (k : KOk K) (u : Nat) (hu : u < 7) : 0 ≤ I (a + 1) u ∧ I (a + 1) u < 7 := by
  have := k.1
  rw [(r.2.1 u hu).1]
  split
  · have := k.2.1.1 u (by omega)
    omega
  · omega
theorem RL.pass (r : RL h I a K LW) (k : KOk K) (ha : a + 11 < 118) (hn : (n : Int) = K 183) (hy : K 112 < 999) : RL h (passW h I a) a (passK K (lvOf K LW) n) LW := by
  have k1 := k.1
  have f : ∀ i, i < 7 ∨ 63 ≤ i → i ≠ 112 → passK K (lvOf K LW) n i = K i := fun i => passK_at i (by omega)
  obtain ⟨r1, r2, ⟨r3, r4, r5⟩, ⟨r6, r7, r8⟩, ⟨r9, r10⟩, ⟨r11, r12, r13⟩, r14, r15, r16, r17⟩ := id r
  have eW : passW h I a = up (passI I a (fun s => altV I a (lawOf h I a) s) n) (a + 8) 0 (I (a + 8) 0 + 1) := by
    unfold passW
    rw [if_pos (by rw [r6]; exact hy), show (I a 0).toNat = n by omega]
  have h7 := r.has7 k
  have o : ∀ b, b ≠ a + 3 → b ≠ a + 5 → b ≠ a + 8 → passW h I a b = I b := fun b q1 q2 q3 => by rw [eW, up_na q3, passI_na q1 q2]
  have e3 : ∀ s, passW h I a (a + 3) s = if s < n then altV I a (lawOf h I a) s else I (a + 3) s := fun s => by rw [eW, up_na (by omega), passI_r3]
  have e5 : ∀ i, passW h I a (a + 5) i = if i / 7 < n ∧ I (a + 1) (i / 7) = ((i % 7 : Nat) : Int) then imin (I (a + 5) i + 1) 99 else I (a + 5) i := fun i => by rw [eW, up_na (by omega), passI_r5 h7 n i (by omega)]
  have e8 : ∀ i, passW h I a (a + 8) i = if i = 0 then I (a + 8) 0 + 1 else I (a + 8) i := fun i => by rw [eW, up_at, passI_na (by omega) (by omega)]
  have b3 : ∀ q, 0 ≤ passW h I a (a + 3) q ∧ passW h I a (a + 3) q ≤ 9 := fun q => by
    rw [e3]
    split
    · rw [r.alt k (by omega)]
      exact altK_in k (by omega)
    · exact r15 q
  have b5 : ∀ q, 0 ≤ passW h I a (a + 5) q ∧ passW h I a (a + 5) q ≤ 99 := fun q => by
    rw [e5]
    split
    · exact imin_99 (r16 q)
    · exact r16 q
  refine r.set k ha (fun i hi => f i (by omega) (by omega)) (f 183 (by omega) (by omega)) (f 185 (by omega) (by omega)) ?_ ⟨o _ (by omega) (by omega) (by omega), o _ (by omega) (by omega) (by omega)⟩ (fun b hb => o b (by omega) (by omega) (by omega)) (fun s hs => ?_) (fun i hi => ?_) (fun q w hq hw => ?_) ?_ ?_ (fun b b1 b2 j => ?_) b3 b5 ?_
  · rw [o a (by omega) (by omega) (by omega), f 183 (by omega) (by omega), f 185 (by omega) (by omega), f 186 (by omega) (by omega)]
    exact ⟨r1, r11, r12⟩
  · rw [e3, o (a + 4) (by omega) (by omega) (by omega), passK_7 hs, f (113 + s) (by omega) (by omega)]
    refine ⟨?_, (r3 s hs).2⟩
    by_cases c : s < n
    · rw [if_pos c, if_pos c, r.alt k (by omega)]
    · rw [if_neg c, if_neg c, (r3 s hs).1]
  · rw [e5, o (a + 6) (by omega) (by omega) (by omega), passK_14 (by omega) hi, f (120 + i) (by omega) (by omega), (r4 i hi).1]
    refine ⟨?_, (r4 i hi).2⟩
    by_cases c : i / 7 < n
    · rw [r.has k (u := i / 7) (by omega)]
    · rw [if_neg (fun z => c z.1), if_neg (fun z => c z.1)]
  · rw [o (a + 7) (by omega) (by omega) (by omega), f (63 + (7 * q + w)) (by omega) (by omega)]
    exact r5 q w hq hw
  · rw [e8, if_pos rfl, e8, if_neg (by omega), e8, if_neg (by omega), passK_112, f 181 (by omega) (by omega), f 182 (by omega) (by omega), r6]
    exact ⟨rfl, r7, r8⟩
  · rw [o a (by omega) (by omega) (by omega), o (a + 9) (by omega) (by omega) (by omega), o (a + 10) (by omega) (by omega) (by omega), f 184 (by omega) (by omega)]
    refine ⟨r9, fun i hi => ?_⟩
    rw [f (169 + 2 * i) (by omega) (by omega), f (170 + 2 * i) (by omega) (by omega)]
    exact r10 i hi
  · by_cases c3 : b = a + 3
    · rw [c3]
      have := b3 j
      unfold inr
      omega
    by_cases c5 : b = a + 5
    · rw [c5]
      have := b5 j
      unfold inr
      omega
    by_cases c8 : b = a + 8
    · rw [c8, e8]
      split
      · have := k.2.2.2.1.1
        unfold inr
        omega
      · exact r14 _ (by omega) (by omega) j
    · rw [o b c3 c5 c8]
      exact r14 b b1 b2 j
  · rw [o (a + 7) (by omega) (by omega) (by omega)]
    exact r17
theorem RL.liked (r : RL h I a K LW) (k : KOk K) : ∀ t : Nat, (t : Int) ≤ K 183 → sumL (fun t => likeV I a (lawOf h I a) t (I (a + 1) t)) t = likedK K (lvOf K LW) t
  | 0, _ => rfl
  | t + 1, ht => by
    have k1 := k.1
    have e := r.has k (u := t) (by omega)
    have hb := k.2.1.1 t (by omega)
    show sumL (fun t => likeV I a (lawOf h I a) t (I (a + 1) t)) t + likeV I a (lawOf h I a) t (I (a + 1) t) = likedK K (lvOf K LW) t + likeK K (lvOf K LW) (t : Int) (K t)
    rw [r.liked k t (by omega), e, r.like k (by omega) (by omega)]
theorem RL.passR_ok (r : RL h I a K LW) (k : KOk K) : passR h I a = passV K (lvOf K LW) := by
  have k1 := k.1
  have k7 := k.2.2.2.1.1
  unfold passR passV
  rw [r.2.2.2.1.1, r.1]
  by_cases c : K 112 = 999
  · rw [if_pos c, if_neg (by omega)]
  · rw [if_neg c, if_pos (by omega), r.liked k _ (by omega)]
end P92
