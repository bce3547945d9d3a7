/-! What orders needs; the reference as far as its loop (by program, wip/whole/gen98zc.py) -/
def CpL3 (I' Ip I : Nat → Nat → Int) (a b : Nat) : Prop := (∀ i, I' a i = if i = 0 ∨ i = 11 ∨ i = 13 ∨ i = 14 then I b i else Ip a i) ∧ (∀ i, I' (a + 1) i = if i < 7 then I (b + 1) i else Ip (a + 1) i) ∧ (∀ i, I' (a + 2) i = if i < 7 then I (b + 2) i else Ip (a + 2) i) ∧ (∀ i, I' (a + 3) i = if i < 7 then I (b + 3) i else Ip (a + 3) i) ∧ (∀ i, I' (a + 4) i = if i < 7 then I (b + 4) i else Ip (a + 4) i) ∧ (∀ i, I' (a + 5) i = if i < 49 then I (b + 5) i else Ip (a + 5) i) ∧ (∀ i, I' (a + 6) i = if i < 49 then I (b + 6) i else Ip (a + 6) i) ∧ (∀ i, I' (a + 7) i = if i < 7 then I (b + 7) i else Ip (a + 7) i) ∧ (∀ i, I' (a + 8) i = if i < 3 then I (b + 8) i else Ip (a + 8) i) ∧ (∀ i, I' (a + 9) i = if i < 6 then I (b + 9) i else Ip (a + 9) i) ∧ (∀ i, I' (a + 10) i = if i < 6 then I (b + 10) i else Ip (a + 10) i)
/-- the codes and numbers of ORDERS laid down -/
def lay6 (K B : Nat → Int) (n c : Nat) : Nat → Int := fun i => if 2594 ≤ i ∧ i < 2594 + c then cdM B n (posT B n (i - 2594)) else if 5394 ≤ i ∧ i < 5394 + c then vlM B n (posT B n (i - 5394)) else if i = 193 then (c : Int) else K i
section P98zc
variable {d n c : Nat} {I I' Ip J : Nat → Nat → Int} {a b : Nat} {h h' : IH} {K : Nat → Int} {LW : Nat → Nat × (Nat → Cls)} {own own' : Nat → Nat} {B : Nat → Int}
theorem RL.lt {K' : Nat → Int} (r : RL h I a K LW) (k : KOk K) (e : ∀ i, i < 187 → K' i = K i) : RL h I a K' LW := by
  obtain ⟨r1, r2, ⟨r3, r4, r5⟩, ⟨r6, r7, r8⟩, ⟨r9, r10⟩, ⟨r11, r12, r13⟩, r14⟩ := r
  refine ⟨by rw [e 183 (by omega)]; exact r1, fun t q => ?_, ⟨fun s q => ?_, fun i q => ?_, fun x y hx hy => ?_⟩, ⟨?_, ?_, ?_⟩, ⟨?_, fun i q => ?_⟩, ⟨?_, ?_, fun j hj => ?_⟩, r14⟩
  · rw [e 183 (by omega), e t (by omega), atK_cg k.1 (fun i hi => e i (by omega)) (e 183 (by omega))]
    exact r2 t q
  · rw [e (7 + s) (by omega), e (113 + s) (by omega)]
    exact r3 s q
  · rw [e (14 + i) (by omega), e (120 + i) (by omega)]
    exact r4 i q
  · rw [e (63 + (7 * x + y)) (by omega)]
    exact r5 x y hx hy
  · rw [e 112 (by omega)]
    exact r6
  · rw [e 181 (by omega)]
    exact r7
  · rw [e 182 (by omega)]
    exact r8
  · rw [e 184 (by omega)]
    exact r9
  · rw [e (169 + 2 * i) (by omega), e (170 + 2 * i) (by omega)]
    exact r10 i q
  · rw [e 185 (by omega)]
    exact r11
  · rw [e 186 (by omega)]
    exact r12
  · rw [e 185 (by omega)] at hj
    exact r13 j hj
theorem KOk.lt {K' : Nat → Int} (k : KOk K) (e : ∀ i, i < 187 → K' i = K i) : KOk K' := by
  obtain ⟨k1, ⟨k2, k2b⟩, ⟨k3, k4, k5, k6⟩, k7, ⟨k10, k11⟩, k12⟩ := k
  refine ⟨by rw [e 183 (by omega)]; exact k1, ⟨fun u hu => ?_, fun s hs => ?_⟩, ⟨fun s hs => ?_, fun i hi => ?_, fun x y hx hy => ?_, fun x hx => ?_⟩, ?_, ⟨?_, fun i hi => ?_⟩, ?_⟩
  · rw [e 183 (by omega)] at hu ⊢
    rw [e u (by omega)]
    exact k2 u hu
  · rw [e 183 (by omega)] at hs
    obtain ⟨u, u1, u2⟩ := k2b s hs
    exact ⟨u, by rw [e 183 (by omega)]; exact u1, by rw [e u (by omega)]; exact u2⟩
  · rw [e (7 + s) (by omega), e (113 + s) (by omega)]
    exact k3 s hs
  · rw [e (14 + i) (by omega), e (63 + i) (by omega), e (120 + i) (by omega)]
    exact k4 i hi
  · rw [e (63 + (7 * x + y)) (by omega), e (63 + (7 * y + x)) (by omega)]
    exact k5 x y hx hy
  · rw [e (120 + 8 * x) (by omega)]
    exact k6 x hx
  · rw [e 112 (by omega), e 181 (by omega), e 182 (by omega)]
    exact k7
  · rw [e 184 (by omega)]
    exact k10
  · rw [e 184 (by omega)] at hi
    rw [e 183 (by omega), e (169 + 2 * i) (by omega), e (170 + 2 * i) (by omega)]
    exact k11 i hi
  · rw [e 185 (by omega), e 186 (by omega)]
    exact k12
theorem RL.copy3 (r : RL h I b K LW) (c : CpL3 I' Ip I a b) (l : LdR Ip a) (hR1 : ∀ j, j < 6 → hR h' (a + 11) j = hR h (b + 11) j) (hk : K 185 ≤ 6) (ht : ∀ j x, j < 6 → hR h (b + 11) j = some x → Sm h h' I I' x (x + 6)) (h11 : I' (a + 11) = Ip (a + 11)) : RL h' I' a K LW := by
  obtain ⟨ca, c1, c2, c3, c4, c5, c6, c7, c8, c9, c10⟩ := c
  obtain ⟨r1, r2, ⟨r3, r4, r5⟩, ⟨r6, r7, r8⟩, ⟨r9, r10⟩, ⟨r11, r12, r13⟩, r14, r15, r16, r17⟩ := r
  obtain ⟨l1, l2, l3, l4⟩ := l
  refine ⟨by rw [ca, if_pos (by omega)]; exact r1, fun t q => by rw [c1, c2, if_pos q, if_pos q]; exact r2 t q, ⟨fun s q => by rw [c3, c4, if_pos q, if_pos q]; exact r3 s q, fun i q => by rw [c5, c6, if_pos q, if_pos q]; exact r4 i q, fun x y hx hy => by rw [c7, if_pos hx]; exact r5 x y hx hy⟩, ⟨by rw [c8, if_pos (by omega)]; exact r6, by rw [c8, if_pos (by omega)]; exact r7, by rw [c8, if_pos (by omega)]; exact r8⟩, ⟨by rw [ca, if_pos (by omega)]; exact r9, fun i q => by rw [c9, c10, if_pos q, if_pos q]; exact r10 i q⟩, ⟨by rw [ca, if_pos (by omega)]; exact r11, by rw [ca, if_pos (by omega)]; exact r12, fun j hj => ?_⟩, fun q q1 q2 k => ?_, fun k => ?_, fun k => ?_, fun k => ?_⟩
  · obtain ⟨x, x1, x2, x3⟩ := r13 j hj
    exact ⟨x, by rw [hR1 j (by omega)]; exact x1, x2, x3.tr (ht j x (by omega) x1)⟩
  · have e : q = a ∨ q = a + 1 ∨ q = a + 2 ∨ q = a + 3 ∨ q = a + 4 ∨ q = a + 5 ∨ q = a + 6 ∨ q = a + 7 ∨ q = a + 8 ∨ q = a + 9 ∨ q = a + 10 ∨ q = a + 11 := by omega
    rcases e with rfl | rfl | rfl | rfl | rfl | rfl | rfl | rfl | rfl | rfl | rfl | rfl
    · rw [ca]
      split
      · exact r14 b (by omega) (by omega) k
      · exact l1 _ (by omega) (by omega) k
    · rw [c1]
      split
      · exact r14 (b + 1) (by omega) (by omega) k
      · exact l1 _ (by omega) (by omega) k
    · rw [c2]
      split
      · exact r14 (b + 2) (by omega) (by omega) k
      · exact l1 _ (by omega) (by omega) k
    · rw [c3]
      split
      · exact r14 (b + 3) (by omega) (by omega) k
      · exact l1 _ (by omega) (by omega) k
    · rw [c4]
      split
      · exact r14 (b + 4) (by omega) (by omega) k
      · exact l1 _ (by omega) (by omega) k
    · rw [c5]
      split
      · exact r14 (b + 5) (by omega) (by omega) k
      · exact l1 _ (by omega) (by omega) k
    · rw [c6]
      split
      · exact r14 (b + 6) (by omega) (by omega) k
      · exact l1 _ (by omega) (by omega) k
    · rw [c7]
      split
      · exact r14 (b + 7) (by omega) (by omega) k
      · exact l1 _ (by omega) (by omega) k
    · rw [c8]
      split
      · exact r14 (b + 8) (by omega) (by omega) k
      · exact l1 _ (by omega) (by omega) k
    · rw [c9]
      split
      · exact r14 (b + 9) (by omega) (by omega) k
      · exact l1 _ (by omega) (by omega) k
    · rw [c10]
      split
      · exact r14 (b + 10) (by omega) (by omega) k
      · exact l1 _ (by omega) (by omega) k
    · rw [h11]
      exact l1 _ (by omega) (by omega) k
  · rw [c3]
    split
    · exact r15 k
    · exact l2 k
  · rw [c5]
    split
    · exact r16 k
    · exact l3 k
  · rw [c7]
    split
    · exact r17 k
    · exact l4 k
theorem LwA.lt {K' : Nat → Int} (hA : LwA K LW) (k : KOk K) (e : ∀ i, i < 187 ∨ (187 ≤ i ∧ i < 193) ∨ (194 ≤ i ∧ i < 2594) ∨ (2994 ≤ i ∧ i < 5394) → K' i = K i) : LwA K' LW := fun j hj => by
  rw [e 185 (by omega)] at hj
  have h6 := k.2.2.2.2.2.1
  exact (hA j hj).cg (by omega) (e _ (by omega)) fun q hq => ⟨e _ (by omega), e _ (by omega)⟩
theorem lay6_of {i : Nat} (hc : c ≤ 400) (hi : i < 193 ∨ (193 < i ∧ i < 2594) ∨ (2994 ≤ i ∧ i < 5394)) : lay6 K B n c i = K i := by
  unfold lay6
  rw [if_neg (by omega), if_neg (by omega), if_neg (by omega)]
theorem lay6_ev (hc : c ≤ 400) : EvR B n c 2400 (lay6 K B n c) := by
  intro k hk
  unfold lay6
  rw [if_pos (by omega), if_neg (by omega), if_pos (by omega), show 194 + (2400 + k) - 2594 = k by omega, show 2994 + (2400 + k) - 5394 = k by omega]
  exact ⟨rfl, rfl⟩
theorem lay6_e (h97 : ∀ j, j < c → I 97 j = cdM B n (posT B n j)) (h98 : ∀ j, j < c → I 98 j = vlM B n (posT B n j)) : layR (up I 90 (187 + 6) (c : Int)) 6 c 0 90 = lay6 (I 90) B n c := by
  funext i
  show (if (90 : Nat) = 90 then (if 194 + 400 * 6 + 0 ≤ i ∧ i < 194 + 400 * 6 + c then (up I 90 (187 + 6) (c : Int)) 97 (i - (194 + 400 * 6)) else if 2994 + 400 * 6 + 0 ≤ i ∧ i < 2994 + 400 * 6 + c then (up I 90 (187 + 6) (c : Int)) 98 (i - (2994 + 400 * 6)) else (up I 90 (187 + 6) (c : Int)) 90 i) else _) = _
  rw [if_pos rfl]
  unfold lay6
  by_cases c1 : 2594 ≤ i ∧ i < 2594 + c
  · rw [if_pos (by omega), if_pos c1, up_na (by omega), h97 _ (by omega)]
  rw [if_neg (by omega), if_neg c1]
  by_cases c2 : 5394 ≤ i ∧ i < 5394 + c
  · rw [if_pos (by omega), if_pos c2, up_na (by omega), h98 _ (by omega)]
  rw [if_neg (by omega), if_neg c2, up_at]
theorem layR_o {t k q : Nat} (hq : q ≠ 90) : layR I t c k q = I q := by
  funext i
  show (if q = 90 then _ else I q i) = I q i
  rw [if_neg hq]
theorem evT_of (hB : ∀ i, 0 ≤ B i ∧ B i ≤ 255) (hn : n ≤ 400) (md : MdTk B n I c) : EvT B n c := ⟨hB, ⟨md.1.2, hn⟩, fun j hj => (md.2.1 j hj).2.2.2, md.2.2.1⟩
theorem evT_un {c' : Nat} (t : EvT B n c) (t' : EvT B n c') : c = c' := by
  have h1 := t.2.2.1
  have h2 := t'.2.2.1
  have e1 := t.2.2.2
  have e2 := t'.2.2.2
  rcases Nat.lt_trichotomy c c' with z | z | z
  · have := h2 c z
    omega
  · exact z
  · have := h1 c' z
    omega
theorem l_asd1 (m : ShM h 88) : ∀ (q i f : Nat) (I : Nat → Nat → Int), i + q = 113 → lp d 156 (f + q + 1) 2 [some (iR (some 88)), some (iI 1), some (iI (i : Int))] [] (st h I J) = some (o0, st h (cpy I 90 i 93 (113 + i) q) J) := by
  intro q
  induction q with
  | zero =>
    intro i f I hi
    rw [Nat.add_zero, e_M_laysAside_2, if_neg (by omega), cpy_0]
  | succ q ih =>
    intro i f I hi
    rw [show f + (q + 1) + 1 = (f + q + 1) + 1 by omega, e_M_laysAside_2, if_pos (by omega), ygR (bT_88 m) (bR_5 m), ygR (bT_88 m) (bR_2 m), xB_s, zAI (i := i) (bT_90 m) (bL_90 m) rfl (by omega), xB_s, wr_id (x := 113 * (1 : Int)) (by omega) (by omega), wr_id (x := 113 * (1 : Int) + (i : Int)) (by omega) (by omega), zSI (i := 113 + i) (bT_93 m) (by omega) (bL_93 m) (by omega) (by omega), wr_id (x := (i : Int) + 1) (by omega) (by omega), show (i : Int) + 1 = ((i + 1 : Nat) : Int) by omega, ih (i + 1) f _ (by omega), show 113 + (i + 1) = 113 + i + 1 by omega, cpy_step I _ _ _ (by omega)]
theorem l_tkb1 (m : ShM h 88) : ∀ (q i f : Nat) (I : Nat → Nat → Int), i + q = 113 → lp d 157 (f + q + 1) 2 [some (iR (some 88)), some (iI 1), some (iI (i : Int))] [] (st h I J) = some (o0, st h (cpy I 93 (113 + i) 90 i q) J) := by
  intro q
  induction q with
  | zero =>
    intro i f I hi
    rw [Nat.add_zero, e_M_takesBack_2, if_neg (by omega), cpy_0]
  | succ q ih =>
    intro i f I hi
    rw [show f + (q + 1) + 1 = (f + q + 1) + 1 by omega, e_M_takesBack_2, if_pos (by omega), ygR (bT_88 m) (bR_2 m), ygR (bT_88 m) (bR_5 m), xB_s, wr_id (x := 113 * (1 : Int)) (by omega) (by omega), wr_id (x := 113 * (1 : Int) + (i : Int)) (by omega) (by omega), zAI (i := 113 + i) (bT_93 m) (bL_93 m) (by omega) (by omega), xB_s, zSI (i := i) (bT_90 m) (by omega) (bL_90 m) rfl (by omega), wr_id (x := (i : Int) + 1) (by omega) (by omega), show (i : Int) + 1 = ((i + 1 : Nat) : Int) by omega, ih (i + 1) f _ (by omega), show 113 + (i + 1) = 113 + i + 1 by omega, cpy_step I _ _ _ (by omega)]
theorem m_aside1 (m : ShM h 88) : rn (d + 1) 156 [iR (some 88), iI 1] (st h I J) = some (o0, st h (cpy I 90 0 93 113 113) J) := by
  rw [r_M_laysAside, e_M_laysAside]
  exact l_asd1 m 113 0 999885 I rfl
theorem m_takeb1 (m : ShM h 88) : rn (d + 1) 157 [iR (some 88), iI 1] (st h I J) = some (o0, st h (cpy I 93 113 90 0 113) J) := by
  rw [r_M_takesBack, e_M_takesBack]
  exact l_tkb1 m 113 0 999885 I rfl
theorem l_27 (m : ShM h 88) : ∀ (q i f : Nat) (I : Nat → Nat → Int), i + q = 1824 → lp d 279 (f + q + 1) 27 [some (iR (some 88)), some (iI (i : Int)), none, none, none] [] (st h I J) = lp d 279 (f + 1) 27 [some (iR (some 88)), some (iI 1824), none, none, none] [] (st h (cpy I 101 i 102 i q) J) := by
  intro q
  induction q with
  | zero =>
    intro i f I hi
    rw [Nat.add_zero, cpy_0, show (i : Int) = 1824 by omega]
  | succ q ih =>
    intro i f I hi
    rw [show f + (q + 1) + 1 = (f + q + 1) + 1 by omega, e_M_orders_27, if_pos (by omega), ygR (bT_88 m) (bR_30 m), ygR (bT_88 m) (bR_29 m), xB_s, zAI (i := i) (bT_101 m) (bL_101 m) rfl (by omega), xB_s, zSI (i := i) (bT_102 m) (by omega) (bL_102 m) rfl (by omega), wr_id (x := (i : Int) + 1) (by omega) (by omega), show (i : Int) + 1 = ((i + 1 : Nat) : Int) by omega, ih (i + 1) f _ (by omega), cpy_step I _ _ _ (by omega)]
theorem l_123 (m : ShM h 88) (x y : Int) : ∀ (q i f : Nat) (I : Nat → Nat → Int), i + q = 1824 → lp d 279 (f + q + 1) 123 [some (iR (some 88)), some (iI x), none, some (iI y), some (iI (i : Int))] [] (st h I J) = lp d 279 (f + 1) 123 [some (iR (some 88)), some (iI x), none, some (iI y), some (iI 1824)] [] (st h (cpy I 102 i 101 i q) J) := by
  intro q
  induction q with
  | zero =>
    intro i f I hi
    rw [Nat.add_zero, cpy_0, show (i : Int) = 1824 by omega]
  | succ q ih =>
    intro i f I hi
    rw [show f + (q + 1) + 1 = (f + q + 1) + 1 by omega, e_M_orders_123, if_pos (by omega), ygR (bT_88 m) (bR_29 m), ygR (bT_88 m) (bR_30 m), xB_s, zAI (i := i) (bT_102 m) (bL_102 m) rfl (by omega), xB_s, zSI (i := i) (bT_101 m) (by omega) (bL_101 m) rfl (by omega), wr_id (x := (i : Int) + 1) (by omega) (by omega), show (i : Int) + 1 = ((i + 1 : Nat) : Int) by omega, ih (i + 1) f _ (by omega), cpy_step I _ _ _ (by omega)]
/-- the reference as far as the loop over the clauses -/
theorem m_ordIn (m : ShM h 88) (hB : ∀ i, 0 ≤ B i ∧ B i ≤ 255) (hn : n ≤ 400) (t : EvT B n c) {Y : Nat → Nat → Int} (en : Y 88 13 = (n : Int)) (eW : ∀ i, Y 94 i = wordB.getD i 0) (eT : ∀ i, i < n → Y 95 i = sb (B i)) {z : Nat × (Nat → Cls)} (ex : aText B n 1 = .inr z) {kp : Int} (e31 : Y 88 31 = kp) : ∃ A, rn (d + 52) 279 [iR (some 88)] (st h Y J) = lp (d + 51) 279 998174 96 [some (iR (some 88)), some (iI kp), some (iI ((2400 + c : Nat) : Int)), some (iI 0), none] [] (st h A J) ∧ (∀ b, b ≠ 88 → b ≠ 90 → b ≠ 93 → b ≠ 97 → b ≠ 98 → b ≠ 99 → b ≠ 102 → A b = Y b) ∧ A 90 = lay6 (Y 90) B n c ∧ (∀ i, i < 113 → A 93 (113 + i) = Y 90 i) ∧ (∀ i, i < 1824 → A 102 i = Y 101 i) ∧ (A 88 27 = 0 ∧ A 88 28 = -1 ∧ A 88 48 = 2400) ∧ (A 88 47 = -1 ∧ A 88 13 = 0 ∧ A 88 14 = -1) ∧ ∀ i, (i < 8 ∨ (21 < i ∧ i < 27) ∨ (28 < i ∧ i < 47) ∨ 48 < i) → A 88 i = Y 88 i := by
  obtain ⟨Y1, eY1⟩ : ∃ Y1, Y1 = up Y 88 47 (-1) := ⟨_, rfl⟩
  have y1 : ∀ b, b ≠ 88 → Y1 b = Y b := fun b hb => by rw [eY1, up_na hb]
  obtain ⟨Kt, mv, I2, m1, m2, ⟨m3, m4, m5⟩, m6⟩ := s_readsAs (d := d + 13) (J := J) (I := Y1) (B := B) (n := n) (ord := 1) m hB hn (Or.inr rfl) (by rw [eY1, up_ni (by omega)]; exact en) (fun i => by rw [y1 94 (by omega)]; exact eW i) (fun i hi => by rw [y1 95 (by omega)]; exact eT i hi)
  obtain ⟨m7, m8⟩ := m5 z ex
  have ek : Kt = c := evT_un (evT_of hB hn m3) t
  subst ek
  obtain ⟨A1, eA1⟩ : ∃ A1, A1 = cpy I2 90 0 93 113 113 := ⟨_, rfl⟩
  obtain ⟨A2, eA2⟩ : ∃ A2, A2 = cpy A1 101 0 102 0 1824 := ⟨_, rfl⟩
  have a1o : ∀ b, b ≠ 93 → A1 b = I2 b := fun b hb => by rw [eA1, cpy_na hb]
  have a2o : ∀ b, b ≠ 102 → A2 b = A1 b := fun b hb => by rw [eA2, cpy_na hb]
  have i2o : ∀ b, b ≠ 88 → b ≠ 97 → b ≠ 98 → b ≠ 99 → I2 b = Y b := fun b q1 q2 q3 q4 => by rw [m1.1 b q1 q2 q3 q4, y1 b q1]
  have x18 : A2 88 18 = (Kt : Int) := by rw [a2o 88 (by omega), a1o 88 (by omega)]; exact m3.1.1
  have x31 : A2 88 31 = kp := by rw [a2o 88 (by omega), a1o 88 (by omega), m1.2 31 (by omega) (by omega) (by omega) (by omega) (by omega) (by omega) (by omega) (by omega) (by omega), eY1, up_ni (by omega)]; exact e31
  have hcn := t.2.1
  have hlay := s_lays (d := d + 50) (J := J) (I := A2) m (t := 6) (c := Kt) (by omega) (by omega) x18
  obtain ⟨A3, eA3⟩ : ∃ A3, A3 = layR (up A2 90 (187 + 6) (Kt : Int)) 6 Kt 0 := ⟨_, rfl⟩
  rw [← eA3] at hlay
  have hlay' : rn (d + 51) 202 [iR (some 88), iI 6] (st h A2 J) = some (o0, st h A3 J) := hlay
  have a3o : ∀ b, b ≠ 90 → A3 b = A2 b := fun b hb => by rw [eA3, layR_o hb, up_na hb]
  have a390 : A3 90 = lay6 (Y 90) B n Kt := by
    rw [eA3, lay6_e (B := B) (n := n) (fun j hj => by rw [a2o 97 (by omega), a1o 97 (by omega)]; exact (m3.2.1 j hj).2.1) (fun j hj => by rw [a2o 98 (by omega), a1o 98 (by omega)]; exact (m3.2.1 j hj).2.2.1), a2o 90 (by omega), a1o 90 (by omega), i2o 90 (by omega) (by omega) (by omega) (by omega)]
  obtain ⟨A4, eA4⟩ : ∃ A4, A4 = up (up (up A3 88 27 0) 88 28 (-1)) 88 48 2400 := ⟨_, rfl⟩
  have a4o : ∀ b, b ≠ 88 → A4 b = A3 b := fun b hb => by rw [eA4, up_na hb, up_na hb, up_na hb]
  have a488 : ∀ i, A4 88 i = if i = 48 then 2400 else if i = 28 then -1 else if i = 27 then 0 else I2 88 i := fun i => by rw [eA4, up_at, up_at, up_at, a3o 88 (by omega), a2o 88 (by omega), a1o 88 (by omega)]
  have x193 : A4 90 193 = (Kt : Int) := by
    rw [a4o 90 (by omega), a390]
    unfold lay6
    rw [if_neg (by omega), if_neg (by omega), if_pos rfl]
  have h27 := l_27 (d := d + 51) (h := h) (J := J) m 1824 0 998174 A1 rfl
  rw [← eA2] at h27
  have h27' : lp (d + 51) 279 999999 27 [some (iR (some 88)), some (iI 0), none, none, none] [] (st h A1 J) = _ := h27
  refine ⟨A4, ?_, fun b q1 q2 q3 q4 q5 q6 q7 => by rw [a4o b q1, a3o b q2, a2o b q7, a1o b q3, i2o b q1 q4 q5 q6], by rw [a4o 90 (by omega), a390], fun i hi => ?_, fun i hi => ?_, ⟨by rw [a488, if_neg (by omega), if_neg (by omega), if_pos rfl], by rw [a488, if_neg (by omega), if_pos rfl], by rw [a488, if_pos rfl]⟩, ⟨?_, ?_, ?_⟩, fun i hi => ?_⟩
  · rw [r_M_orders, e_M_orders, ypI (bT_88 m) (by omega), ← eY1, yck (bT_88 m)]
    have m2' : rn (d + 51) 201 [iR (some 88), iI 1] (st h Y1 J) = _ := m2
    rw [m2', kI_o, if_neg (by omega), yck (bT_88 m), m_aside1 (d := d + 50) m, kV_o, ← eA1, h27', e_M_orders_27, if_neg (by omega), ygIv (bT_88 m) x31, yck (bT_88 m), hlay', kV_o, ypI (bT_88 m) (by omega), ypI (bT_88 m) (by omega), ypI (bT_88 m) (by omega), ← eA4, ygIv (x := 2400) (bT_88 m) (by rw [a488, if_pos rfl]), ygR (bT_88 m) (bR_2 m), xB_s, yaIv (i := 193) (j := 193) (bT_90 m) (bL_90 m) rfl (by omega) x193, wr_id (x := (2400 : Int) + (Kt : Int)) (by omega) (by omega), show (2400 : Int) + (Kt : Int) = ((2400 + Kt : Nat) : Int) by omega]
  · rw [a4o 93 (by omega), a3o 93 (by omega), a2o 93 (by omega), eA1, cpy_at (by omega), i2o 90 (by omega) (by omega) (by omega) (by omega), show 0 + (113 + i - 113) = i by omega]
  · rw [a4o 102 (by omega), a3o 102 (by omega), eA2, cpy_at (by omega), a1o 101 (by omega), i2o 101 (by omega) (by omega) (by omega) (by omega), show 0 + (i - 0) = i by omega]
  · rw [a488, if_neg (by omega), if_neg (by omega), if_neg (by omega), m1.2 47 (by omega) (by omega) (by omega) (by omega) (by omega) (by omega) (by omega) (by omega) (by omega), eY1, up_eq]
  · rw [a488, if_neg (by omega), if_neg (by omega), if_neg (by omega)]
    exact m6
  · rw [a488, if_neg (by omega), if_neg (by omega), if_neg (by omega)]
    exact m7
  · rw [a488, if_neg (by omega), if_neg (by omega), if_neg (by omega), m1.2 i (by omega) (by omega) (by omega) (by omega) (by omega) (by omega) (by omega) (by omega) (by omega), eY1, up_ni (by omega)]
end P98zc
