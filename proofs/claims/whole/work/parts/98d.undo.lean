/-! undo (by program, wip/whole/gen98d.py) -/
/-- how all is with F taken back -/
def mxK (K F : Nat → Int) : Nat → Int := fun j => if j < 113 then F j else K j
section P98d
variable {h : IH} {I I0 I1 I2 I' J : Nat → Nat → Int} {k L d n a : Nat} {xs : Nat → Int32} {K K' F P : Nat → Int} {LW : Nat → Nat × (Nat → Cls)} {kind : Int}
theorem mxK_ok (k : KOk K) (m : KMv (K 183) F) : KOk (mxK K F) := by
  obtain ⟨k1, k2, ⟨k3, k4, k5, k6⟩, k7, ⟨k10, k11⟩, k12⟩ := k
  obtain ⟨⟨m1, m1b⟩, m2, m3, m4, m5⟩ := m
  have lo : ∀ j, j < 113 → mxK K F j = F j := fun j hj => if_pos hj
  have hi : ∀ j, 113 ≤ j → mxK K F j = K j := fun j hj => if_neg (by omega)
  have e183 := hi 183 (by omega)
  refine ⟨by rw [e183]; exact k1, ⟨fun u hu => ?_, fun s hs => ?_⟩, ⟨fun s hs => ?_, fun i hi2 => ?_, fun x y hx hy => ?_, fun x hx => ?_⟩, ?_, ?_, ?_⟩
  · rw [e183] at hu ⊢
    rw [lo u (by omega)]
    exact m1 u hu
  · rw [e183] at hs
    obtain ⟨u, u1, u2⟩ := m1b s hs
    exact ⟨u, by rw [e183]; exact u1, by rw [lo u (by omega)]; exact u2⟩
  · rw [lo (7 + s) (by omega), hi (113 + s) (by omega)]
    exact ⟨m2 s hs, (k3 s hs).2⟩
  · rw [lo (14 + i) (by omega), lo (63 + i) (by omega), hi (120 + i) (by omega)]
    exact ⟨(m3 i hi2).1, (m3 i hi2).2, (k4 i hi2).2.2⟩
  · rw [lo (63 + (7 * x + y)) (by omega), lo (63 + (7 * y + x)) (by omega)]
    exact m4 x y hx hy
  · rw [hi (120 + 8 * x) (by omega)]
    exact k6 x hx
  · rw [lo 112 (by omega), hi 181 (by omega), hi 182 (by omega)]
    exact ⟨m5, k7.2⟩
  · rw [hi 184 (by omega), e183]
    refine ⟨k10, fun i hi2 => ?_⟩
    rw [hi (169 + 2 * i) (by omega), hi (170 + 2 * i) (by omega)]
    exact k11 i hi2
  · rw [hi 185 (by omega), hi 186 (by omega)]
    exact k12
theorem RL.back (r : RL h I a K LW) (k : KOk K) (ha : a + 11 < 118) (w : RwP (K 183) P F) (h1 : ∀ t, I' (a + 1) t = if (t : Int) < K 183 then P t else I (a + 1) t) (h2 : (∀ u : Nat, (u : Int) < K 183 → I' (a + 2) (P u).toNat = u) ∧ (∀ s : Nat, K 183 ≤ (s : Int) → I' (a + 2) s = I (a + 2) s) ∧ ∀ s, inr (I' (a + 2) s)) (h3 : ∀ s, I' (a + 3) s = if s < 7 then P (7 + s) else I (a + 3) s) (h7 : ∀ x, I' (a + 7) x = if x < 7 then P (14 + x) else I (a + 7) x) (h5 : ∀ i, I' (a + 5) i = if i < 49 then P (21 + i) else I (a + 5) i) (h8 : ∀ i, I' (a + 8) i = if i = 0 then P 70 else I (a + 8) i) (ho : ∀ b, ((a ≤ b ∧ b ≤ a + 11) ∨ 118 ≤ b) → b ≠ a + 1 → b ≠ a + 2 → b ≠ a + 3 → b ≠ a + 5 → b ≠ a + 7 → b ≠ a + 8 → I' b = I b) : RL h I' a (mxK K F) LW := by
  obtain ⟨m, p1, p2, p3, p4, ⟨p5, p6⟩, p7, p8⟩ := w
  have k' := mxK_ok k m
  obtain ⟨⟨m1, m1b⟩, m2, m3, m4, m5⟩ := m
  obtain ⟨r1, r2, ⟨r3, r4, r5⟩, ⟨r6, r7, r8⟩, ⟨r9, r10⟩, ⟨r11, r12, r13⟩, r14, r15, r16, r17⟩ := r
  have lo : ∀ j, j < 113 → mxK K F j = F j := fun j hj => if_pos hj
  have hi : ∀ j, 113 ≤ j → mxK K F j = K j := fun j hj => if_neg (by omega)
  have e183 := hi 183 (by omega)
  have n := k.1
  refine ⟨by rw [ho a (by omega) (by omega) (by omega) (by omega) (by omega) (by omega) (by omega), e183]; exact r1, fun t ht => ?_, ⟨fun s hs => ?_, fun i hi2 => ?_, fun x y hx hy => ?_⟩, ?_, ?_, ⟨?_, ?_, fun j hj => ?_⟩, fun b b1 b2 q => ?_, fun q => ?_, fun q => ?_, fun q => ?_⟩
  · rw [e183, lo t (by omega), h1]
    by_cases c : (t : Int) < K 183
    · rw [if_pos c, if_pos c, if_pos c, p1 t ht c]
      refine ⟨rfl, ?_⟩
      have q := atK_ok k' (s := (t : Int)) (by rw [e183]; omega)
      rw [e183] at q
      have q2 := h2.1 (atK (mxK K F) t).toNat (by omega)
      have q3 := p1 (atK (mxK K F) t).toNat (by omega) (by omega)
      rw [lo _ (by omega)] at q
      rw [q3, q.2, Int.toNat_natCast] at q2
      rw [q2]
      omega
    · rw [if_neg c, if_neg c, if_neg c, (r2 t ht).1, if_neg c, h2.2.1 t (by omega), (r2 t ht).2, if_neg c]
      exact ⟨rfl, rfl⟩
  · rw [h3, if_pos hs, p2 s hs, lo (7 + s) (by omega), ho (a + 4) (by omega) (by omega) (by omega) (by omega) (by omega) (by omega) (by omega), hi (113 + s) (by omega)]
    exact ⟨rfl, (r3 s hs).2⟩
  · rw [h5, if_pos hi2, p4 i hi2, lo (14 + i) (by omega), ho (a + 6) (by omega) (by omega) (by omega) (by omega) (by omega) (by omega) (by omega), hi (120 + i) (by omega)]
    exact ⟨rfl, (r4 i hi2).2⟩
  · rw [h7, if_pos hx, lo (63 + (7 * x + y)) (by omega)]
    exact p3 x y hx hy
  · rw [h8, if_pos rfl, h8, if_neg (by omega), h8, if_neg (by omega), lo 112 (by omega), hi 181 (by omega), hi 182 (by omega)]
    exact ⟨p5, r7, r8⟩
  · rw [ho a (by omega) (by omega) (by omega) (by omega) (by omega) (by omega) (by omega), ho (a + 9) (by omega) (by omega) (by omega) (by omega) (by omega) (by omega) (by omega), ho (a + 10) (by omega) (by omega) (by omega) (by omega) (by omega) (by omega) (by omega), hi 184 (by omega)]
    refine ⟨r9, fun i hi2 => ?_⟩
    rw [hi (169 + 2 * i) (by omega), hi (170 + 2 * i) (by omega)]
    exact r10 i hi2
  · rw [ho a (by omega) (by omega) (by omega) (by omega) (by omega) (by omega) (by omega), hi 185 (by omega)]
    exact r11
  · rw [ho a (by omega) (by omega) (by omega) (by omega) (by omega) (by omega) (by omega), hi 186 (by omega)]
    exact r12
  · rw [hi 185 (by omega)] at hj
    obtain ⟨x, x1, x2, x3⟩ := r13 j hj
    exact ⟨x, x1, x2, x3.fr fun b b1 b2 => ho b (by omega) (by omega) (by omega) (by omega) (by omega) (by omega) (by omega)⟩
  · by_cases c1 : b = a + 1
    · rw [c1, h1]
      split
      · rename_i c
        rw [p1 q (by omega) c]
        have := m1 q c
        unfold inr
        omega
      · exact r14 _ (by omega) (by omega) q
    by_cases c2 : b = a + 2
    · rw [c2]
      exact h2.2.2 q
    by_cases c3 : b = a + 3
    · rw [c3, h3]
      split
      · rename_i c
        rw [p2 q c]
        have := m2 q c
        unfold inr
        omega
      · exact r14 _ (by omega) (by omega) q
    by_cases c5 : b = a + 5
    · rw [c5, h5]
      split
      · rename_i c
        rw [p4 q c]
        have := (m3 q c).1
        unfold inr
        omega
      · exact r14 _ (by omega) (by omega) q
    by_cases c7 : b = a + 7
    · rw [c7, h7]
      split
      · rename_i c
        have := p8 q c
        unfold inr
        omega
      · exact r14 _ (by omega) (by omega) q
    by_cases c8 : b = a + 8
    · rw [c8, h8]
      split
      · rw [p5]
        unfold inr
        omega
      · exact r14 _ (by omega) (by omega) q
    · rw [ho b (by omega) c1 c2 c3 c5 c7 c8]
      exact r14 b b1 b2 q
  · rw [h3]
    split
    · rename_i c
      rw [p2 q c]
      exact m2 q c
    · exact r15 q
  · rw [h5]
    split
    · rename_i c
      rw [p4 q c]
      exact (m3 q c).1
    · exact r16 q
  · rw [h7]
    split
    · rename_i c
      exact p8 q c
    · exact r17 q
/-- the first c TOWNS have theirs again -/
def tbI (I : Nat → Nat → Int) (P : Nat → Int) : Nat → Nat → Nat → Int
  | 0 => I
  | c + 1 => up (up (tbI I P c) 5 c (P c)) 6 (P c).toNat (c : Int)
theorem tbI_o {b : Nat} (h5 : b ≠ 5) (h6 : b ≠ 6) : ∀ c, tbI I P c b = I b
  | 0 => rfl
  | c + 1 => by
    unfold tbI
    rw [up_na h6, up_na h5, tbI_o h5 h6 c]
theorem tbI_5 : ∀ (c t : Nat), tbI I P c 5 t = if t < c then P t else I 5 t
  | 0, t => by rw [if_neg (by omega)]; rfl
  | c + 1, t => by
    unfold tbI
    rw [up_na (by omega), up_at, tbI_5 c t]
    by_cases q : t = c
    · rw [if_pos q, if_pos (by omega), q]
    · rw [if_neg q]
      by_cases q2 : t < c
      · rw [if_pos q2, if_pos (by omega)]
      · rw [if_neg q2, if_neg (by omega)]
theorem tbI_6 (inj : ∀ u w, u < n → w < n → (P u).toNat = (P w).toNat → u = w) : ∀ c, c ≤ n → (∀ u, u < c → tbI I P c 6 (P u).toNat = u) ∧ ∀ s, (∀ u, u < c → (P u).toNat ≠ s) → tbI I P c 6 s = I 6 s
  | 0, _ => ⟨fun u hu => absurd hu (by omega), fun s _ => rfl⟩
  | c + 1, hc => by
    obtain ⟨a1, a2⟩ := tbI_6 inj c (by omega)
    unfold tbI
    refine ⟨fun u hu => ?_, fun s hs => ?_⟩
    · rw [up_at]
      by_cases q : (P u).toNat = (P c).toNat
      · rw [if_pos q, inj u c (by omega) (by omega) q]
      · rw [if_neg q, up_na (by omega)]
        by_cases q2 : u = c
        · exact absurd (by rw [q2]) q
        · exact a1 u (by omega)
    · rw [up_at, if_neg (fun z => hs c (by omega) z.symm), up_na (by omega)]
      exact a2 s fun u hu => hs u (by omega)
theorem l_tb (s : ShT h) {r : Nat} (hr : r < 17) {I0 : Nat → Nat → Int} (en : I0 4 0 = (n : Int)) (hn : n ≤ 7) (hP : ∀ t, t < n → 0 ≤ I0 73 (72 * r + t) ∧ I0 73 (72 * r + t) < 7) : ∀ (m c f : Nat), c + m = n → lp (d + 1) 51 (f + m + 1) 40 [some (iR (some 72)), some (iR (some 4)), some (iI (72 * r : Nat)), some (iI (c : Int))] [] (st h (tbI I0 (pR73 (I0 73) r) c) J) = lp (d + 1) 51 (f + 1) 40 [some (iR (some 72)), some (iR (some 4)), some (iI (72 * r : Nat)), some (iI (n : Int))] [] (st h (tbI I0 (pR73 (I0 73) r) n) J) := by
  intro m
  induction m with
  | zero =>
    intro c f hc
    rw [show c = n by omega]
  | succ m ih =>
    intro c f hc
    have hp := hP c (by omega)
    have X73 : tbI I0 (pR73 (I0 73) r) c 73 = I0 73 := tbI_o (by omega) (by omega) c
    have X4 : tbI I0 (pR73 (I0 73) r) c 4 0 = (n : Int) := by rw [tbI_o (by omega) (by omega) c, en]
    rw [show f + (m + 1) + 1 = (f + m + 1) + 1 by omega, e_Ps_takeBack_40, xB_s, ygIv (aT_4 s) X4, if_pos (by omega), ygR (aT_72 s) (aR_72_2 s), xB_s, yaIv (i := 72 * r + c) (x := I0 73 (72 * r + c)) (aT_73 s) (aL_73 s) (by rw [wr_id (by omega) (by omega)]; omega) (by omega) (by rw [X73]), xB_s, yck (aT_4 s), s_put (ShT_4 s) (by omega) (by omega), kV_o, wr_id (x := (c : Int) + 1) (by omega) (by omega), show (c : Int) + 1 = ((c + 1 : Nat) : Int) by omega]
    exact ih (c + 1) f (by omega)
/-- a LAND with what is taken back -/
def bkI (X : Nat → Nat → Int) (r : Nat) : Nat → Nat → Int := up (cpy (cpy (cpy X 73 (72 * r + 7) 7 0 7) 73 (72 * r + 14) 11 0 7) 73 (72 * r + 21) 9 0 49) 12 0 (X 73 (72 * r + 70))
theorem t_back (s : ShT h) {kp nx : Nat} (e0 : I 72 0 = (kp : Int)) (e1 : I 72 1 = (nx : Int)) (hk : 0 < kp ∧ kp ≤ 16) (hx : nx < 17) (en : I 4 0 = (n : Int)) (hn : n ≤ 7) (hP : ∀ t, t < n → 0 ≤ I 73 (72 * ((nx + 16) % 17) + t) ∧ I 73 (72 * ((nx + 16) % 17) + t) < 7) : rn (d + 2) 51 [iR (some 72), iR (some 4)] (st h I J) = some (oI (I 73 (72 * ((nx + 16) % 17) + 71)), st h (bkI (tbI (up (up I 72 1 (((nx + 16) % 17 : Nat) : Int)) 72 0 ((kp - 1 : Nat) : Int)) (pR73 (I 73) ((nx + 16) % 17)) n) ((nx + 16) % 17)) J) := by
  have h72 := aT_72 s
  have h73 := aT_73 s
  have l73 := aL_73 s
  obtain ⟨r, er⟩ : ∃ r, r = (nx + 16) % 17 := ⟨_, rfl⟩
  rw [← er] at hP ⊢
  have hr : r < 17 := by omega
  obtain ⟨X, eX⟩ : ∃ X, X = up (up I 72 1 ((r : Nat) : Int)) 72 0 ((kp - 1 : Nat) : Int) := ⟨_, rfl⟩
  have X73 : X 73 = I 73 := by rw [eX, up_na (by omega), up_na (by omega)]
  have X4 : X 4 0 = (n : Int) := by rw [eX, up_na (by omega), up_na (by omega)]; exact en
  have hl := l_tb (d := d) (J := J) s hr X4 hn (by rw [X73]; exact hP) n 0 (999998 - n) (by omega)
  rw [X73, show 999998 - n + n + 1 = 999999 by omega] at hl
  have hl' : lp (d + 1) 51 999999 40 [some (iR (some 72)), some (iR (some 4)), some (iI (72 * r : Nat)), some (iI 0)] [] (st h X J) = _ := hl
  have Y73 : tbI X (pR73 (I 73) r) n 73 = I 73 := by rw [tbI_o (by omega) (by omega), X73]
  have Y4 : tbI X (pR73 (I 73) r) n 4 0 = (n : Int) := by rw [tbI_o (by omega) (by omega), X4]
  generalize hY : tbI X (pR73 (I 73) r) n = Y at *
  rw [r_Ps_takeBack, e_Ps_takeBack, ygIv h72 e1, xmI_ok (by omega), wr_id (x := (nx : Int) + 17) (by omega) (by omega), wr_id (x := (nx : Int) + 17 - 1) (by omega) (by omega), Int.tmod_eq_emod_of_nonneg (by omega), wr_id (x := ((nx : Int) + 17 - 1) % 17) (by omega) (by omega), show ((nx : Int) + 17 - 1) % 17 = ((r : Nat) : Int) by omega, ypI h72 (by omega), ygIv (x := (kp : Int)) h72 (by rw [up_ni (by omega)]; exact e0), ypI h72 (by omega), wr_id (x := (kp : Int) - 1) (by omega) (by omega), show imax ((kp : Int) - 1) 0 = ((kp - 1 : Nat) : Int) by unfold imax; split <;> omega, ygIv (x := (r : Int)) h72 (by rw [up_ni (by omega), up_eq]), wr_id (x := (r : Int) * 72) (by omega) (by omega), show (r : Int) * 72 = ((72 * r : Nat) : Int) by omega, ← eX, hl', e_Ps_takeBack_40, xB_s, ygIv (aT_4 s) Y4, if_neg (by omega), ygR h72 (aR_72_2 s), xB_s, ygR (aT_4 s) (aR_4_3 s), ycpv (i := 72 * r + 7) (j := 0) (c := 7) (y := 0) (z := 7) h73 (aT_7 s) (by omega) (by omega) (by omega) l73 (aL_7 s) (by rw [wr_id (by omega) (by omega)]; omega) rfl rfl (by omega) (by omega), ygR h72 (aR_72_2 s), xB_s, ygR (aT_4 s) (aR_4_7 s), ycpv (i := 72 * r + 14) (j := 0) (c := 7) (y := 0) (z := 7) h73 (aT_11 s) (by omega) (by omega) (by omega) l73 (aL_11 s) (by rw [wr_id (by omega) (by omega)]; omega) rfl rfl (by omega) (by omega), ygR h72 (aR_72_2 s), xB_s, ygR (aT_4 s) (aR_4_5 s), ycpv (i := 72 * r + 21) (j := 0) (c := 49) (y := 0) (z := 49) h73 (aT_9 s) (by omega) (by omega) (by omega) l73 (aL_9 s) (by rw [wr_id (by omega) (by omega)]; omega) rfl rfl (by omega) (by omega), xB_s, ygR (aT_4 s) (aR_4_8 s), ygR h72 (aR_72_2 s), xB_s, yaIv (i := 72 * r + 70) (x := Y 73 (72 * r + 70)) h73 l73 (by rw [wr_id (by omega) (by omega)]; omega) (by omega) (by rw [cpy_na (by omega), cpy_na (by omega), cpy_na (by omega)]), xB_s, zSI (i := 0) (j := 0) (aT_12 s) (by omega) (aL_12 s) rfl (by omega), ygR h72 (aR_72_2 s), xB_s, yaIv (i := 72 * r + 71) (x := I 73 (72 * r + 71)) h73 l73 (by rw [wr_id (by omega) (by omega)]; omega) (by omega) (by rw [up_na (by omega), cpy_na (by omega), cpy_na (by omega), cpy_na (by omega), Y73])]
  rw [← hY]
  rfl
theorem l_undoM (m : ShM h 88) {u : Nat} (hu : u < 16) : ∀ (r q f : Nat) (I : Nat → Nat → Int), q + r = 113 → ∃ I', (∀ b, b ≠ 88 → b ≠ 90 → I' b = I b) ∧ (∀ i, I' 88 i = if i = 0 then 0 else I 88 i) ∧ (∀ j, I' 90 j = if q ≤ j ∧ j < 113 then I 101 (114 * u + j) else I 90 j) ∧ lp (d + 1) 228 (f + r + 1) 34 [some (iR (some 88)), some (iI (114 * u : Nat)), some (iI (q : Int))] [] (st h I J) = some (oI (I 101 (114 * u + 113)), st h I' J) := by
  intro r
  induction r with
  | zero =>
    intro q f I hq
    refine ⟨up I 88 0 0, fun b q1 q2 => up_na q1, fun i => up_at _ _ _ _ _, fun j => ?_, ?_⟩
    · rw [if_neg (by omega), up_na (by omega)]
    · rw [Nat.add_zero, e_M_undo_34, if_neg (by omega), ygR (bT_88 m) (bR_29 m), xB_s, zAI (i := 114 * u + 113) (bT_101 m) (bL_101 m) (by rw [wr_id (by omega) (by omega)]; omega) (by omega), yck (bT_88 m), s_good m, kI_o]
  | succ r ih =>
    intro q f I hq
    obtain ⟨I', a1, a2, a3, a4⟩ := ih (q + 1) f (up I 90 q (I 101 (114 * u + q))) (by omega)
    have e101 : (up I 90 q (I 101 (114 * u + q))) 101 = I 101 := up_na (by omega)
    rw [e101] at a3 a4
    refine ⟨I', fun b q1 q2 => by rw [a1 b q1 q2, up_na q2], fun i => by rw [a2, up_na (by omega)], fun j => ?_, ?_⟩
    · rw [a3, up_at]
      by_cases c : j = q
      · rw [if_neg (by omega), if_pos c, if_pos (by omega), c]
      · rw [if_neg c]
        by_cases c2 : q + 1 ≤ j ∧ j < 113
        · rw [if_pos c2, if_pos (by omega)]
        · rw [if_neg c2, if_neg (by omega)]
    · rw [show f + (r + 1) + 1 = (f + r + 1) + 1 by omega, e_M_undo_34, if_pos (by omega), ygR (bT_88 m) (bR_2 m), ygR (bT_88 m) (bR_29 m), xB_s, zAI (i := 114 * u + q) (bT_101 m) (bL_101 m) (by rw [wr_id (by omega) (by omega)]; omega) (by omega), xB_s, zSI (i := q) (bT_90 m) (by omega) (bL_90 m) rfl (by omega), wr_id (x := (q : Int) + 1) (by omega) (by omega), show (q : Int) + 1 = ((q + 1 : Nat) : Int) by omega]
      exact a4
theorem C_undo (v : Inv L xs k h I) (hk : k < 1000) : Cal L xs k h I J 118 228 [] := by
  obtain ⟨LW, o⟩ := v.now
  have s := v.t
  have m := v.m
  have kk := o.2.2.1
  have hn := kk.1
  obtain ⟨kp, nx, b1, b2, b3, b4, b5, b6⟩ := id v.p
  by_cases c : kp = 0
  · subst c
    have rv : RfV (-3) := by unfold RfV; omega
    refine Cal.r v hk (-3) rv (fun d => ⟨I, J, TnQ.rf I, ?_⟩) fun d I1 J1 t => ⟨refT (-3) I1, J1, MnQ.rf _, ?_⟩
    · rw [r_T_undo, e_T_undo, ygR (aT_3 s) (aR_3_9 s), xB_s, ygIv (aT_72 s) b3, if_pos (by omega), yck (aT_3 s), s_refT (d := d + 98) s (x := -3) rv (v.b87 rv).1, kI_o]
    · have e31 : refT (-3) I1 88 31 = 0 := by rw [refT_n (by omega) (by omega), t 88 (by omega) (by omega) (by omega) (by omega), b5]; rfl
      have e89 : refT (-3) I1 89 = I 89 := (refT_n (by omega) (by omega)).trans (t 89 (by omega) (by omega) (by omega) (by omega))
      rw [r_M_undo, e_M_undo, ygIv (bT_88 m) e31, if_pos rfl, yck (bT_88 m), s_refM (d := d + 98) m (x := -3) rv (by rw [e89]; exact (v.b87 rv).2), kI_o]
  obtain ⟨n, en⟩ : ∃ n : Nat, I 90 183 = (n : Int) := ⟨(I 90 183).toNat, by omega⟩
  have e4 : I 4 0 = (n : Int) := o.2.1.1.trans en
  have hrow := b6 (kp - 1) (by omega)
  rw [show (nx + 17 - kp + (kp - 1)) % 17 = (nx + 16) % 17 by omega] at hrow
  obtain ⟨r, er⟩ : ∃ r, r = (nx + 16) % 17 := ⟨_, rfl⟩
  rw [← er] at hrow
  obtain ⟨km, w1, w2, w3, w4, ⟨w5, w6⟩, w7, w8⟩ := id hrow
  have hP : ∀ t, t < n → 0 ≤ I 73 (72 * r + t) ∧ I 73 (72 * r + t) < 7 := fun t ht => by
    have e : I 73 (72 * r + t) = pR101 (I 101) (kp - 1) t := w1 t (by omega) (by omega)
    have := km.1.1 t (by omega)
    rw [e]
    omega
  have k' := mxK_ok kk km
  refine Cal.of v fun d => ?_
  have hT0 := t_back (d := d + 97) (J := J) s b3 b4 (by omega) b2 e4 (by omega) (by rw [← er]; exact hP)
  rw [← er] at hT0
  obtain ⟨X, eX⟩ : ∃ X, X = up (up I 72 1 ((r : Nat) : Int)) 72 0 ((kp - 1 : Nat) : Int) := ⟨_, rfl⟩
  obtain ⟨Y, eY⟩ : ∃ Y, Y = tbI X (pR73 (I 73) r) n := ⟨_, rfl⟩
  obtain ⟨Z, eZ⟩ : ∃ Z, Z = bkI Y r := ⟨_, rfl⟩
  rw [← eX, ← eY, ← eZ] at hT0
  have hT : rn (d + 100) 118 [iR (some 3)] (st h I J) = some (oI (I 73 (72 * r + 71)), st h (up Z 3 15 0) J) := by
    rw [r_T_undo, e_T_undo, ygR (aT_3 s) (aR_3_9 s), xB_s, ygIv (aT_72 s) b3, if_neg (by omega), ygR (aT_3 s) (aR_3_9 s), ygR (aT_3 s) (aR_3_0 s), xB_s, yck (aT_72 s), hT0, kI_o, yck (aT_3 s), s_taken (d := d + 98) s, kI_o]
  have zo : ∀ b, b ≠ 5 → b ≠ 6 → b ≠ 7 → b ≠ 9 → b ≠ 11 → b ≠ 12 → b ≠ 72 → Z b = I b := fun b q1 q2 q3 q4 q5 q6 q7 => by
    rw [eZ]
    unfold bkI
    rw [up_na q6, cpy_na q4, cpy_na q5, cpy_na q3, eY, tbI_o q1 q2, eX, up_na q7, up_na q7]
  obtain ⟨I1, hI1⟩ : ∃ I1, I1 = up Z 3 15 0 := ⟨_, rfl⟩
  rw [← hI1] at hT
  have f1 : ∀ b, b ≠ 3 → b ≠ 5 → b ≠ 6 → b ≠ 7 → b ≠ 9 → b ≠ 11 → b ≠ 12 → b ≠ 72 → I1 b = I b := fun b q0 q1 q2 q3 q4 q5 q6 q7 => by rw [hI1, up_na q0, zo b q1 q2 q3 q4 q5 q6 q7]
  have g88 : I1 88 = I 88 := f1 88 (by omega) (by omega) (by omega) (by omega) (by omega) (by omega) (by omega) (by omega)
  have g101 : I1 101 = I 101 := f1 101 (by omega) (by omega) (by omega) (by omega) (by omega) (by omega) (by omega) (by omega)
  have g90 : I1 90 = I 90 := f1 90 (by omega) (by omega) (by omega) (by omega) (by omega) (by omega) (by omega) (by omega)
  obtain ⟨I2, a1, a2, a3, a4⟩ := l_undoM (d := d + 98) (J := J) m (u := kp - 1) (by omega) 113 0 999885 (up I1 88 31 ((kp - 1 : Nat) : Int)) rfl
  rw [show (up I1 88 31 ((kp - 1 : Nat) : Int)) 101 = I 101 by rw [up_na (by omega), g101]] at a3 a4
  have a4' : lp (d + 99) 228 999999 34 [some (iR (some 88)), some (iI (114 * (kp - 1) : Nat)), some (iI 0)] [] (st h (up I1 88 31 ((kp - 1 : Nat) : Int)) J) = _ := a4
  have hM : rn (d + 100) 228 [iR (some 88)] (st h I1 J) = some (oI (I 73 (72 * r + 71)), st h I2 J) := by
    rw [r_M_undo, e_M_undo, ygIv (x := (kp : Int)) (bT_88 m) (by rw [g88, b5]), if_neg (by omega), ygIv (x := (kp : Int)) (bT_88 m) (by rw [g88, b5]), wr_id (x := (kp : Int) - 1) (by omega) (by omega), show (kp : Int) - 1 = ((kp - 1 : Nat) : Int) by omega, ypI (bT_88 m) (by omega), ygIv (x := ((kp - 1 : Nat) : Int)) (bT_88 m) (up_eq _ _ _ _), wr_id (x := 114 * ((kp - 1 : Nat) : Int)) (by omega) (by omega), show 114 * ((kp - 1 : Nat) : Int) = ((114 * (kp - 1) : Nat) : Int) by omega, a4']
    have e : I 73 (72 * r + 71) = I 101 (114 * (kp - 1) + 113) := w6
    rw [e]
  have h88 : ∀ i, I2 88 i = if i = 0 then 0 else if i = 31 then ((kp - 1 : Nat) : Int) else I 88 i := fun i => by rw [a2, up_at, g88]
  have h90 : I2 90 = mxK (I 90) (pR101 (I 101) (kp - 1)) := by
    funext j
    rw [a3, up_na (by omega), g90]
    show _ = if j < 113 then I 101 (114 * (kp - 1) + j) else I 90 j
    by_cases q : j < 113
    · rw [if_pos q, if_pos (by omega)]
    · rw [if_neg q, if_neg (by omega)]
  have hz : ∀ b, b ≠ 3 → b ≠ 88 → b ≠ 90 → I2 b = Z b := fun b q1 q2 q3 => by rw [a1 b q2 q3, up_na q2, hI1, up_na q1]
  have h3 : ∀ i, I2 3 i = if i = 15 then 0 else I 3 i := fun i => by rw [a1 3 (by omega) (by omega), up_na (by omega), hI1, up_at, zo 3 (by omega) (by omega) (by omega) (by omega) (by omega) (by omega) (by omega)]
  have h72 : ∀ i, I2 72 i = if i = 0 then ((kp - 1 : Nat) : Int) else if i = 1 then (r : Int) else I 72 i := fun i => by
    rw [hz 72 (by omega) (by omega) (by omega), eZ]
    unfold bkI
    rw [up_na (by omega), cpy_na (by omega), cpy_na (by omega), cpy_na (by omega), eY, tbI_o (by omega) (by omega), eX, up_at, up_at]
  have c0 : ∀ b, b ≠ 3 → b ≠ 5 → b ≠ 6 → b ≠ 7 → b ≠ 9 → b ≠ 11 → b ≠ 12 → b ≠ 72 → b ≠ 88 → b ≠ 90 → I2 b = I b := fun b q0 q1 q2 q3 q4 q5 q6 q7 q8 q9 => by rw [hz b q0 q8 q9, zo b q1 q2 q3 q4 q5 q6 q7]
  have Y73 : Y 73 = I 73 := by rw [eY, tbI_o (by omega) (by omega), eX, up_na (by omega), up_na (by omega)]
  have X5 : X 5 = I 5 ∧ X 6 = I 6 := by
    rw [eX]
    exact ⟨by rw [up_na (by omega), up_na (by omega)], by rw [up_na (by omega), up_na (by omega)]⟩
  have yo : ∀ b, b ≠ 5 → b ≠ 6 → b ≠ 72 → Y b = I b := fun b q1 q2 q3 => by rw [eY, tbI_o q1 q2, eX, up_na q3, up_na q3]
  have rl : RL h I2 4 (mxK (I 90) (pR101 (I 101) (kp - 1))) LW := by
    have inj : ∀ u w, u < n → w < n → (pR73 (I 73) r u).toNat = (pR73 (I 73) r w).toNat → u = w := fun u w hu hw e => by
      rw [w1 u (by omega) (by omega), w1 w (by omega) (by omega)] at e
      have e183 : mxK (I 90) (pR101 (I 101) (kp - 1)) 183 = I 90 183 := if_neg (by omega)
      have l1 : mxK (I 90) (pR101 (I 101) (kp - 1)) u = pR101 (I 101) (kp - 1) u := if_pos (by omega)
      have l2 : mxK (I 90) (pR101 (I 101) (kp - 1)) w = pR101 (I 101) (kp - 1) w := if_pos (by omega)
      have q1 := km.1.1 u (by omega)
      have q2 := km.1.1 w (by omega)
      exact k'.inj (by rw [e183]; omega) (by rw [e183]; omega) (by rw [l1, l2]; omega)
    obtain ⟨t1, t2⟩ := tbI_6 (I := X) inj n (Nat.le_refl n)
    refine o.2.1.back kk (by omega) hrow (fun t => ?_) ⟨fun u hu => ?_, fun q hq => ?_, fun q => ?_⟩ (fun q => ?_) (fun q => ?_) (fun q => ?_) (fun q => ?_) (fun b hb q1 q2 q3 q4 q5 q6 => c0 b (by omega) (by omega) (by omega) (by omega) (by omega) (by omega) (by omega) (by omega) (by omega) (by omega))
    · rw [hz (4 + 1) (by omega) (by omega) (by omega), eZ]
      unfold bkI
      rw [up_na (by omega), cpy_na (by omega), cpy_na (by omega), cpy_na (by omega), eY]
      show tbI X (pR73 (I 73) r) n 5 t = _
      rw [tbI_5, X5.1]
      by_cases q : t < n
      · rw [if_pos q, if_pos (by omega)]
      · rw [if_neg q, if_neg (by omega)]
    · rw [hz (4 + 2) (by omega) (by omega) (by omega), eZ]
      unfold bkI
      rw [up_na (by omega), cpy_na (by omega), cpy_na (by omega), cpy_na (by omega), eY]
      exact t1 u (by omega)
    · rw [hz (4 + 2) (by omega) (by omega) (by omega), eZ]
      unfold bkI
      rw [up_na (by omega), cpy_na (by omega), cpy_na (by omega), cpy_na (by omega), eY]
      show tbI X (pR73 (I 73) r) n 6 q = I 6 q
      rw [t2 q fun u hu => ?_, X5.2]
      rw [w1 u (by omega) (by omega)]
      have := km.1.1 u (by omega)
      omega
    · rw [hz (4 + 2) (by omega) (by omega) (by omega), eZ]
      unfold bkI
      rw [up_na (by omega), cpy_na (by omega), cpy_na (by omega), cpy_na (by omega), eY]
      show inr (tbI X (pR73 (I 73) r) n 6 q)
      by_cases c : ∃ u, u < n ∧ (pR73 (I 73) r u).toNat = q
      · obtain ⟨u, u1, u2⟩ := c
        rw [← u2, t1 u u1]
        unfold inr
        omega
      · rw [t2 q fun u hu z => c ⟨u, hu, z⟩, X5.2]
        exact o.2.1.2.2.2.2.2.2.1 6 (by omega) (by omega) q
    · rw [hz (4 + 3) (by omega) (by omega) (by omega), eZ]
      unfold bkI
      rw [up_na (by omega), cpy_na (by omega), cpy_na (by omega)]
      by_cases q1 : q < 7
      · rw [if_pos q1, cpy_at (by omega), Y73]
        show I 73 (72 * r + 7 + (q - 0)) = I 73 (72 * r + (7 + q))
        congr 1
        omega
      · rw [if_neg q1, cpy_of (by omega), yo 7 (by omega) (by omega) (by omega)]
    · rw [hz (4 + 7) (by omega) (by omega) (by omega), eZ]
      unfold bkI
      rw [up_na (by omega), cpy_na (by omega)]
      by_cases q1 : q < 7
      · rw [if_pos q1, cpy_at (by omega), cpy_na (by omega), Y73]
        show I 73 (72 * r + 14 + (q - 0)) = I 73 (72 * r + (14 + q))
        congr 1
        omega
      · rw [if_neg q1, cpy_of (by omega), cpy_na (by omega), yo 11 (by omega) (by omega) (by omega)]
    · rw [hz (4 + 5) (by omega) (by omega) (by omega), eZ]
      unfold bkI
      rw [up_na (by omega)]
      by_cases q1 : q < 49
      · rw [if_pos q1, cpy_at (by omega), cpy_na (by omega), cpy_na (by omega), Y73]
        show I 73 (72 * r + 21 + (q - 0)) = I 73 (72 * r + (21 + q))
        congr 1
        omega
      · rw [if_neg q1, cpy_of (by omega), cpy_na (by omega), cpy_na (by omega), yo 9 (by omega) (by omega) (by omega)]
    · rw [hz (4 + 8) (by omega) (by omega) (by omega), eZ]
      unfold bkI
      rw [up_at, cpy_na (by omega), cpy_na (by omega), cpy_na (by omega), yo 12 (by omega) (by omega) (by omega), Y73]
      rfl
  refine ⟨_, I1, J, I2, J, hT, hM, f1 0 (by omega) (by omega) (by omega) (by omega) (by omega) (by omega) (by omega) (by omega), v.land hk (fun b hb => c0 b (by omega) (by omega) (by omega) (by omega) (by omega) (by omega) (by omega) (by omega) (by omega) (by omega)) (fun i hi => by rw [h88, if_neg (by omega), if_neg (by omega)]) ⟨by rw [h88, h3, if_pos rfl, if_pos rfl], by rw [h3, if_neg (by omega)], by rw [h3, if_neg (by omega)]⟩ ⟨LW, ?_, ?_, ?_⟩ ?_⟩
  · rw [h90]
    exact rl
  · rw [h90]
    exact k'
  · rw [h90]
    exact o.2.2.2.1.cg kk fun i i1 i2 => if_neg (by omega)
  · refine ⟨kp - 1, r, by omega, by omega, by rw [h72, if_pos rfl], by rw [h72, if_neg (by omega), if_pos rfl], by rw [h88, if_neg (by omega), if_pos rfl], fun i hi => ?_⟩
    have e183 : I2 90 183 = I 90 183 := by rw [h90]; exact if_neg (by omega)
    rw [e183, c0 73 (by omega) (by omega) (by omega) (by omega) (by omega) (by omega) (by omega) (by omega) (by omega) (by omega), c0 101 (by omega) (by omega) (by omega) (by omega) (by omega) (by omega) (by omega) (by omega) (by omega) (by omega), show (r + 17 - (kp - 1) + i) % 17 = (nx + 17 - kp + i) % 17 by omega]
    exact b6 i (by omega)
end P98d
