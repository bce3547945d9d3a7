/-! Moves, the reference (by program, wip/whole/gen88.py) -/
def upF (K : Nat → Int) (i : Nat) (x : Int) : Nat → Int := fun j => if j = i then x else K j
theorem up_F (I : Nat → Nat → Int) (a i : Nat) (x : Int) : up I a i x a = upF (I a) i x := funext fun j => up_at I a i x j
/-- what can be undone grew by how all was (Lo: what was kept, K: how all was) -/
def LfOk (I' I : Nat → Nat → Int) (kind : Int) : Prop := ∃ u s : Nat, I 88 31 = (u : Int) ∧ u ≤ 16 ∧ s = (if u = 16 then 1 else 0) ∧ I' 88 31 = ((u - s + 1 : Nat) : Int) ∧ (∀ i, i < 113 → I' 101 (114 * (u - s) + i) = I 90 i) ∧ I' 101 (114 * (u - s) + 113) = kind ∧ ∀ j i, j < u - s → i < 114 → I' 101 (114 * j + i) = I 101 (114 * (j + s) + i)
def KpFr (I' I : Nat → Nat → Int) : Prop := (∀ b, b ≠ 88 → b ≠ 90 → b ≠ 100 → b ≠ 101 → b ≠ 103 → I' b = I b) ∧ ∀ i, i ≠ 22 → i ≠ 23 → i ≠ 24 → i ≠ 25 → i ≠ 31 → I' 88 i = I 88 i
theorem KpFr.tr {A B C : Nat → Nat → Int} (h1 : KpFr A B) (h2 : KpFr B C) : KpFr A C := ⟨fun b q1 q2 q3 q4 q5 => (h1.1 b q1 q2 q3 q4 q5).trans (h2.1 b q1 q2 q3 q4 q5), fun i q1 q2 q3 q4 q5 => (h1.2 i q1 q2 q3 q4 q5).trans (h2.2 i q1 q2 q3 q4 q5)⟩
theorem AsFr.kp {A B : Nat → Nat → Int} (h : AsFr A B) : KpFr A B := ⟨fun b q1 _ q3 _ _ => h.1 b q1 q3, fun i q1 q2 q3 q4 _ => h.2 i q1 q2 q3 q4⟩
theorem KpFr.k (I : Nat → Nat → Int) (i : Nat) (x : Int) : KpFr (up I 90 i x) I := ⟨fun b _ q2 _ _ _ => up_na q2, fun i _ _ _ _ _ => by rw [up_na (by omega)]⟩
/-- a move that was made: K': how all is then -/
def KtG (I' I : Nat → Nat → Int) (K' : Nat → Int) (kind : Int) : Prop := KpFr I' I ∧ I' 90 = K' ∧ LfOk I' I kind
def shI (I : Nat → Nat → Int) (k : Nat) : Nat → Nat → Int := fun q i => if q = 101 ∧ k ≤ i ∧ i < 1710 then I 101 (i + 114) else I q i
section P88
variable {d n : Nat} {h : IH} {I J : Nat → Nat → Int} {L : LwV}
theorem shI_s (I : Nat → Nat → Int) {k : Nat} (hk : k < 1710) : shI (up I 101 k (I 101 (k + 114))) (k + 1) = shI I k := by
  funext q i
  unfold shI
  by_cases c : q = 101
  · subst c
    by_cases c1 : i = k
    · rw [if_neg (by omega), if_pos (by omega), up_at, if_pos c1, c1]
    · by_cases c2 : k ≤ i ∧ i < 1710
      · rw [if_pos (by omega), if_pos (by omega), up_ni (by omega)]
      · rw [if_neg (by omega), if_neg (by omega), up_ni c1]
  · rw [if_neg (fun z => c z.1), if_neg (fun z => c z.1), up_na c]
theorem l_k14 (s : ShM h 88) {w : Int} : ∀ (m k f : Nat) (I : Nat → Nat → Int), k + m = 1710 → lp d 227 (f + m + 1) 14 [some (iR (some 88)), some (iI w), some (iI 114), some (iI (k : Int))] [] (st h I J) = lp d 227 f 54 [some (iR (some 88)), some (iI w), some (iI 114), some (iI 0)] [] (st h (up (shI I k) 88 31 (wr (I 88 31 - 1))) J) := by
  intro m
  induction m with
  | zero =>
    intro k f I hk
    have e : shI I k = I := by
      funext q i
      unfold shI
      rw [if_neg (by omega)]
    rw [Nat.add_zero, e_M_keeps_14, if_neg (by rw [show wr (15 * 114) = 1710 by decide]; omega), ygI (bT_88 s), ypI (bT_88 s) (by omega), e]
  | succ m ih =>
    intro k f I hk
    rw [show f + (m + 1) + 1 = (f + m + 1) + 1 by omega, e_M_keeps_14, if_pos (by rw [show wr (15 * 114) = 1710 by decide]; omega), ygR (bT_88 s) (bR_29 s), ygR (bT_88 s) (bR_29 s), xB_s, zAI (i := k + 114) (bT_101 s) (bL_101 s) (by rw [wr_id (by omega) (by omega)]; omega) (by omega), xB_s, ysN (bT_101 s) (by omega) (bL_101 s) (by omega), wr_id (by omega) (by omega)]
    have := ih (k + 1) f (up I 101 k (I 101 (k + 114))) (by omega)
    rw [shI_s I (by omega), up_na (show 88 ≠ 101 by omega)] at this
    exact this
theorem s_keeps (s : ShM h 88) {I : Nat → Nat → Int} {kind : Int} {u : Nat} (e : I 88 31 = (u : Int)) (hu : u ≤ 16) : ∃ I', (∀ b, b ≠ 88 → b ≠ 101 → I' b = I b) ∧ (∀ i, i ≠ 31 → I' 88 i = I 88 i) ∧ rn (d + 1) 227 [iR (some 88), iI kind] (st h I J) = some (o0, st h I' J) ∧ LfOk I' I kind := by
  by_cases c : u = 16
  · obtain ⟨I1, e1⟩ : ∃ I1, I1 = up (shI I 0) 88 31 15 := ⟨_, rfl⟩
    have h31 : wr (I 88 31 - 1) = 15 := by rw [e, c]; decide
    have hl := l_keeps (d := d) (J := J) (w := kind) s 113 0 (999998 - 1711 - 113) I1 15 (by omega) (by rw [e1, up_eq]; rfl) (by omega)
    have hk := l_k14 (d := d) (J := J) (w := kind) s 1710 0 (999998 - 1710) I (by omega)
    rw [h31, ← e1] at hk
    rw [show 999998 - 1711 - 113 + 113 + 1 = 999998 - 1710 by omega] at hl
    rw [show 999998 - 1710 + 1710 + 1 = 999999 by omega] at hk
    have f1 : ∀ b, b ≠ 88 → b ≠ 101 → I1 b = I b := fun b q1 q2 => by
      rw [e1, up_na q1]
      funext i
      unfold shI
      rw [if_neg (fun z => q2 z.1)]
    have f2 : ∀ i, i ≠ 31 → I1 88 i = I 88 i := fun i q => by
      rw [e1, up_ni q]
      unfold shI
      rw [if_neg (by omega)]
    refine ⟨up (up (cpy I1 90 0 101 (114 * 15 + 0) 113) 101 (114 * 15 + 113) kind) 88 31 (((15 : Nat) : Int) + 1), fun b q1 q2 => ?_, fun i q => ?_, ?_, ⟨u, 1, e, hu, by rw [if_pos c], ?_, fun i hi => ?_, ?_, fun j i hj hi => ?_⟩⟩
    rotate_left
    rotate_left
    · rw [r_M_keeps, e_M_keeps, ygI (bT_88 s), e, if_pos (by omega)]
      exact hk.trans hl
    · rw [up_eq, c]
      rfl
    · rw [c, up_na (by omega), up_ni (by omega), show 114 * (16 - 1) + i = 114 * 15 + 0 + i by omega, cpy_at (by omega), f1 90 (by omega) (by omega)]
      exact congrArg (I 90) (by omega)
    · rw [c, up_na (by omega), up_eq]
    · rw [c] at hj
      rw [up_na (by omega), up_ni (by omega), cpy_of (by omega), e1, up_na (by omega)]
      unfold shI
      rw [if_pos ⟨rfl, by omega, by omega⟩]
      congr 1
      omega
    · rw [up_na q1, up_na q2, cpy_na q2]
      exact f1 b q1 q2
    · rw [up_ni q, up_na (by omega), cpy_na (by omega)]
      exact f2 i q
  · have hl := s_keeps1 (d := d) (J := J) (w := kind) s u e (by omega)
    refine ⟨_, fun b q1 q2 => ?_, fun i q => ?_, hl, ⟨u, 0, e, hu, by rw [if_neg c], by rw [up_eq]; rfl, fun i hi => ?_, ?_, fun j i hj hi => ?_⟩⟩
    · rw [up_na q1, up_na q2, cpy_na q2]
    · rw [up_ni q, up_na (by omega), cpy_na (by omega)]
    · rw [Nat.sub_zero, up_na (by omega), up_ni (by omega), cpy_at (by omega)]
      congr 1
      omega
    · rw [Nat.sub_zero, up_na (by omega), up_eq]
    · rw [up_na (by omega), up_ni (by omega), cpy_of (by omega), Nat.add_zero]
/-- whether two, three can -/
noncomputable def canSw (K : Nat → Int) (L : LwV) (a b : Int) : Prop := sendK K L (K a.toNat) a b = 1 ∧ sendK K L (K b.toNat) b a = 1
noncomputable def canRd (K : Nat → Int) (L : LwV) (a b c : Int) : Prop := sendK K L (K a.toNat) a b = 1 ∧ sendK K L (K b.toNat) b c = 1 ∧ sendK K L (K c.toNat) c a = 1
theorem m_canSw (s : ShM h 88) (k : KOk (I 90)) (hL : LwR (I 90) L) {a b : Int} (ha : 0 ≤ a ∧ a < I 90 183) (hb : 0 ≤ b ∧ b < I 90 183) : ∃ I' v, AsFr I' I ∧ rn (d + 46) 230 [iR (some 88), iI a, iI b] (st h I J) = some (oI v, st h I' J) ∧ (v = 0 ∨ v = 1) ∧ (v = 1 ↔ canSw (I 90) L a b) := by
  have hn := k.1
  have h1 := k.2.1.1 a.toNat (by omega)
  have h2 := k.2.1.1 b.toNat (by omega)
  obtain ⟨I1, a1, a2⟩ := m_send (d := d) (J := J) s k hL (u := I 90 a.toNat) (p := a) (t := b) (by omega) (by omega) (by omega)
  have e90 : I1 90 = I 90 := a1.1 90 (by omega) (by omega)
  obtain ⟨I2, b1, b2⟩ := m_send (d := d) (J := J) (I := I1) (L := L) s (by rw [e90]; exact k) (by rw [e90]; exact hL) (u := I 90 b.toNat) (p := b) (t := a) (by omega) (by omega) (by omega)
  rw [e90] at b2
  have hh : rn (d + 46) 230 [iR (some 88), iI a, iI b] (st h I J) = (if sendK (I 90) L (I 90 a.toNat) a b = 0 then xZ 0 (st h I1 J) else if sendK (I 90) L (I 90 b.toNat) b a = 0 then xZ 0 (st h I2 J) else xZ 1 (st h I2 J)) := by
    rw [r_M_canSwap, e_M_canSwap, ygR (bT_88 s) (bR_2 s), xB_s, zAI (i := a.toNat) (bT_90 s) (bL_90 s) (by rw [wr_id (by omega) (by omega)]; omega) (by omega), yck (bT_88 s), a2, kI_o, ygR (bT_88 s) (bR_2 s), xB_s, zAI (i := b.toNat) (bT_90 s) (bL_90 s) (by rw [wr_id (by omega) (by omega)]; omega) (by omega), e90, yck (bT_88 s), b2, kI_o]
  rw [hh]
  unfold canSw
  rcases sendK_01 (K := I 90) (L := L) (I 90 a.toNat) a b with c | c
  · exact ⟨I1, 0, a1, by rw [if_pos c, xZ_0], Or.inl rfl, ⟨fun z => absurd z (by decide), fun z => by rw [c] at z; exact absurd z.1 (by decide)⟩⟩
  · rw [if_neg (by rw [c]; decide)]
    rcases sendK_01 (K := I 90) (L := L) (I 90 b.toNat) b a with c2 | c2
    · exact ⟨I2, 0, b1.tr a1, by rw [if_pos c2, xZ_0], Or.inl rfl, ⟨fun z => absurd z (by decide), fun z => by rw [c2] at z; exact absurd z.2 (by decide)⟩⟩
    · exact ⟨I2, 1, b1.tr a1, by rw [if_neg (by rw [c2]; decide), xZ_1], Or.inr rfl, ⟨fun _ => ⟨c, c2⟩, fun _ => rfl⟩⟩
theorem m_canRd (s : ShM h 88) (k : KOk (I 90)) (hL : LwR (I 90) L) {a b c : Int} (ha : 0 ≤ a ∧ a < I 90 183) (hb : 0 ≤ b ∧ b < I 90 183) (hc : 0 ≤ c ∧ c < I 90 183) : ∃ I' v, AsFr I' I ∧ rn (d + 46) 232 [iR (some 88), iI a, iI b, iI c] (st h I J) = some (oI v, st h I' J) ∧ (v = 0 ∨ v = 1) ∧ (v = 1 ↔ canRd (I 90) L a b c) := by
  have hn := k.1
  have h1 := k.2.1.1 a.toNat (by omega)
  have h2 := k.2.1.1 b.toNat (by omega)
  have h3 := k.2.1.1 c.toNat (by omega)
  obtain ⟨I1, a1, a2⟩ := m_send (d := d) (J := J) s k hL (u := I 90 a.toNat) (p := a) (t := b) (by omega) (by omega) (by omega)
  have e90 : I1 90 = I 90 := a1.1 90 (by omega) (by omega)
  obtain ⟨I2, b1, b2⟩ := m_send (d := d) (J := J) (I := I1) (L := L) s (by rw [e90]; exact k) (by rw [e90]; exact hL) (u := I 90 b.toNat) (p := b) (t := c) (by omega) (by omega) (by omega)
  have e91 : I2 90 = I 90 := (b1.1 90 (by omega) (by omega)).trans e90
  obtain ⟨I3, c1, c2⟩ := m_send (d := d) (J := J) (I := I2) (L := L) s (by rw [e91]; exact k) (by rw [e91]; exact hL) (u := I 90 c.toNat) (p := c) (t := a) (by omega) (by omega) (by omega)
  rw [e90] at b2
  rw [e91] at c2
  have hh : rn (d + 46) 232 [iR (some 88), iI a, iI b, iI c] (st h I J) = (if sendK (I 90) L (I 90 a.toNat) a b = 0 then xZ 0 (st h I1 J) else if sendK (I 90) L (I 90 b.toNat) b c = 0 then xZ 0 (st h I2 J) else if sendK (I 90) L (I 90 c.toNat) c a = 0 then xZ 0 (st h I3 J) else xZ 1 (st h I3 J)) := by
    rw [r_M_canRound, e_M_canRound, ygR (bT_88 s) (bR_2 s), xB_s, zAI (i := a.toNat) (bT_90 s) (bL_90 s) (by rw [wr_id (by omega) (by omega)]; omega) (by omega), yck (bT_88 s), a2, kI_o, ygR (bT_88 s) (bR_2 s), xB_s, zAI (i := b.toNat) (bT_90 s) (bL_90 s) (by rw [wr_id (by omega) (by omega)]; omega) (by omega), e90, yck (bT_88 s), b2, kI_o, ygR (bT_88 s) (bR_2 s), xB_s, zAI (i := c.toNat) (bT_90 s) (bL_90 s) (by rw [wr_id (by omega) (by omega)]; omega) (by omega), e91, yck (bT_88 s), c2, kI_o]
  rw [hh]
  unfold canRd
  rcases sendK_01 (K := I 90) (L := L) (I 90 a.toNat) a b with z1 | z1
  · exact ⟨I1, 0, a1, by rw [if_pos z1, xZ_0], Or.inl rfl, ⟨fun z => absurd z (by decide), fun z => by rw [z1] at z; exact absurd z.1 (by decide)⟩⟩
  · rw [if_neg (by rw [z1]; decide)]
    rcases sendK_01 (K := I 90) (L := L) (I 90 b.toNat) b c with z2 | z2
    · exact ⟨I2, 0, b1.tr a1, by rw [if_pos z2, xZ_0], Or.inl rfl, ⟨fun z => absurd z (by decide), fun z => by rw [z2] at z; exact absurd z.2.1 (by decide)⟩⟩
    · rw [if_neg (by rw [z2]; decide)]
      rcases sendK_01 (K := I 90) (L := L) (I 90 c.toNat) c a with z3 | z3
      · exact ⟨I3, 0, (c1.tr b1).tr a1, by rw [if_pos z3, xZ_0], Or.inl rfl, ⟨fun z => absurd z (by decide), fun z => by rw [z3] at z; exact absurd z.2.2 (by decide)⟩⟩
      · exact ⟨I3, 1, (c1.tr b1).tr a1, by rw [if_neg (by rw [z3]; decide), xZ_1], Or.inr rfl, ⟨fun _ => ⟨z1, z2, z3⟩, fun _ => rfl⟩⟩
def swapF (K : Nat → Int) (a b : Int) : Nat → Int := upF (upF K a.toNat (K b.toNat)) b.toNat (K a.toNat)
def roundF (K : Nat → Int) (a b c : Int) : Nat → Int := upF (upF (upF K c.toNat (K b.toNat)) b.toNat (K a.toNat)) a.toNat (K c.toNat)
theorem m_swaps (s : ShM h 88) {a b : Int} (ha : 0 ≤ a ∧ a < 7) (hb : 0 ≤ b ∧ b < 7) : ∃ I', (∀ q, q ≠ 90 → I' q = I q) ∧ I' 90 = swapF (I 90) a b ∧ rn (d + 1) 231 [iR (some 88), iI a, iI b] (st h I J) = some (o0, st h I' J) := by
  refine ⟨up (up I 90 a.toNat (I 90 b.toNat)) 90 b.toNat (I 90 a.toNat), fun q hq => by rw [up_na hq, up_na hq], by rw [up_F, up_F]; rfl, ?_⟩
  rw [r_M_swaps, e_M_swaps, ygR (bT_88 s) (bR_2 s), xB_s, zAI (i := a.toNat) (bT_90 s) (bL_90 s) (by rw [wr_id (by omega) (by omega)]; omega) (by omega), ygR (bT_88 s) (bR_2 s), ygR (bT_88 s) (bR_2 s), xB_s, zAI (i := b.toNat) (bT_90 s) (bL_90 s) (by rw [wr_id (by omega) (by omega)]; omega) (by omega), xB_s, zSI (i := a.toNat) (bT_90 s) (by omega) (bL_90 s) (by rw [wr_id (by omega) (by omega)]; omega) (by omega), ygR (bT_88 s) (bR_2 s), xB_s, zSI (i := b.toNat) (bT_90 s) (by omega) (bL_90 s) (by rw [wr_id (by omega) (by omega)]; omega) (by omega)]
theorem m_goes (s : ShM h 88) {a b c : Int} (ha : 0 ≤ a ∧ a < 7) (hb : 0 ≤ b ∧ b < 7) (hc : 0 ≤ c ∧ c < 7) (hbc : b ≠ c) (hac : a ≠ c) : ∃ I', (∀ q, q ≠ 90 → I' q = I q) ∧ I' 90 = roundF (I 90) a b c ∧ rn (d + 1) 233 [iR (some 88), iI a, iI b, iI c] (st h I J) = some (o0, st h I' J) := by
  refine ⟨up (up (up I 90 c.toNat (I 90 b.toNat)) 90 b.toNat (I 90 a.toNat)) 90 a.toNat (I 90 c.toNat), fun q hq => by rw [up_na hq, up_na hq, up_na hq], by rw [up_F, up_F, up_F]; rfl, ?_⟩
  rw [r_M_goesRound, e_M_goesRound, ygR (bT_88 s) (bR_2 s), xB_s, zAI (i := c.toNat) (bT_90 s) (bL_90 s) (by rw [wr_id (by omega) (by omega)]; omega) (by omega), ygR (bT_88 s) (bR_2 s), ygR (bT_88 s) (bR_2 s), xB_s, zAI (i := b.toNat) (bT_90 s) (bL_90 s) (by rw [wr_id (by omega) (by omega)]; omega) (by omega), xB_s, zSI (i := c.toNat) (bT_90 s) (by omega) (bL_90 s) (by rw [wr_id (by omega) (by omega)]; omega) (by omega), ygR (bT_88 s) (bR_2 s), ygR (bT_88 s) (bR_2 s), xB_s, zAI (i := a.toNat) (bT_90 s) (bL_90 s) (by rw [wr_id (by omega) (by omega)]; omega) (by omega), up_ni (show a.toNat ≠ c.toNat by omega), xB_s, zSI (i := b.toNat) (bT_90 s) (by omega) (bL_90 s) (by rw [wr_id (by omega) (by omega)]; omega) (by omega), ygR (bT_88 s) (bR_2 s), xB_s, zSI (i := a.toNat) (bT_90 s) (by omega) (bL_90 s) (by rw [wr_id (by omega) (by omega)]; omega) (by omega)]
theorem LfOk.of {A B C : Nat → Nat → Int} {kind : Int} (h : LfOk A B kind) (e31 : B 88 31 = C 88 31) (e90 : B 90 = C 90) (e101 : B 101 = C 101) : LfOk A C kind := by
  obtain ⟨u, s, a1, a2, a3, a4, a5, a6, a7⟩ := h
  exact ⟨u, s, e31 ▸ a1, a2, a3, a4, fun i hi => by rw [← e90]; exact a5 i hi, a6, fun j i hj hi => by rw [← e101]; exact a7 j i hj hi⟩
theorem LfOk.to {A B C : Nat → Nat → Int} {kind : Int} (h : LfOk A B kind) (e31 : C 88 31 = A 88 31) (e101 : C 101 = A 101) : LfOk C B kind := by
  obtain ⟨u, s, a1, a2, a3, a4, a5, a6, a7⟩ := h
  exact ⟨u, s, a1, a2, a3, by rw [e31]; exact a4, fun i hi => by rw [e101]; exact a5 i hi, by rw [e101]; exact a6, fun j i hj hi => by rw [e101]; exact a7 j i hj hi⟩
/-- what swap, round, close, pass tell: below 0: refused -/
noncomputable def swapV (K : Nat → Int) (L : LwV) (a b : Int) : Int := @ite _ (a = b) (Classical.propDecidable _) (-1) (@ite _ ((0 ≤ a ∧ a < K 183) ∧ (0 ≤ b ∧ b < K 183)) (Classical.propDecidable _) (@ite _ (canSw K L a b) (Classical.propDecidable _) (K b.toNat) (-3)) (-2))
theorem swapF_a {K : Nat → Int} {a b : Int} (h : 0 ≤ a ∧ 0 ≤ b ∧ a ≠ b) : swapF K a b a.toNat = K b.toNat := by
  unfold swapF upF
  rw [if_neg (by omega), if_pos rfl]
theorem two_if {K : Nat → Int} {a b : Int} (c : a ≠ b) : (if (0 ≤ a ∧ a < K 183) ∧ (0 ≤ b ∧ b < K 183) ∧ a ≠ b then (1 : Int) else 0) = if (0 ≤ a ∧ a < K 183) ∧ (0 ≤ b ∧ b < K 183) then 1 else 0 := by
  by_cases q : (0 ≤ a ∧ a < K 183) ∧ (0 ≤ b ∧ b < K 183)
  · rw [if_pos q, if_pos ⟨q.1, q.2, c⟩]
  · rw [if_neg q, if_neg (fun z => q ⟨z.1, z.2.1⟩)]
theorem m_swapK (s : ShM h 88) (k : KOk (I 90)) (hL : LwR (I 90) L) {u : Nat} (e31 : I 88 31 = (u : Int)) (hu : u ≤ 16) (a b : Int) : ∃ I', rn (d + 47) 236 [iR (some 88), iI a, iI b] (st h I J) = some (oI (swapV (I 90) L a b), st h I' J) ∧ (swapV (I 90) L a b < 0 → AsFr I' I) ∧ (0 ≤ swapV (I 90) L a b → (0 ≤ a ∧ a < I 90 183) ∧ (0 ≤ b ∧ b < I 90 183) ∧ a ≠ b ∧ KtG I' I (swapF (I 90) a b) 0) := by
  have hn := k.1
  unfold swapV
  rw [r_M_swapsKept, e_M_swapsKept]
  by_cases c1 : a = b
  · rw [if_pos c1, if_pos c1]
    exact ⟨I, rfl, fun _ => AsFr.rf I, fun z => absurd z (by decide)⟩
  have ht := s_areTwo (d := d + 43) (h := h) (I := I) (J := J) s a b hn
  have ht' : rn (d + 46) 162 [iR (some 88), iI a, iI b] (st h I J) = some (oI (if (0 ≤ a ∧ a < I 90 183) ∧ (0 ≤ b ∧ b < I 90 183) then 1 else 0), st h I J) := by
    rw [ht]
    exact congrArg (fun x => some (oI x, st h I J)) (two_if (K := I 90) c1)
  rw [if_neg c1, if_neg c1, yck (bT_88 s), ht', kI_o]
  by_cases c2 : (0 ≤ a ∧ a < I 90 183) ∧ (0 ≤ b ∧ b < I 90 183)
  case neg =>
    rw [if_neg c2, if_neg c2, if_pos rfl]
    exact ⟨I, rfl, fun _ => AsFr.rf I, fun z => absurd z (by decide)⟩
  rw [if_pos c2, if_pos c2, if_neg (by decide)]
  obtain ⟨I1, v, a1, a2, a3, a4⟩ := m_canSw (d := d) (J := J) s k hL c2.1 c2.2
  rw [yck (bT_88 s), a2, kI_o]
  by_cases c3 : canSw (I 90) L a b
  case neg =>
    rw [if_neg c3, if_pos (a3.resolve_right fun z => c3 (a4.mp z))]
    exact ⟨I1, rfl, fun _ => a1, fun z => absurd z (by decide)⟩
  have hb0 := k.2.1.1 b.toNat (by omega)
  obtain ⟨I2, b1, b2, b3, b4⟩ := s_keeps (d := d + 45) (J := J) (kind := 0) (I := I1) s (u := u) (by rw [a1.2 31 (by omega) (by omega) (by omega) (by omega)]; exact e31) hu
  obtain ⟨I3, d1, d2, d3⟩ := m_swaps (d := d + 45) (I := I2) (J := J) s (a := a) (b := b) (by omega) (by omega)
  have e90 : I2 90 = I 90 := (b1 90 (by omega) (by omega)).trans (a1.1 90 (by omega) (by omega))
  have e3 : I3 90 a.toNat = I 90 b.toNat := by rw [d2, e90, swapF_a ⟨c2.1.1, c2.2.1, c1⟩]
  rw [if_pos c3, if_neg (by rw [a4.mpr c3]; decide), yck (bT_88 s), b3, kV_o, yck (bT_88 s), d3, kV_o, ygR (bT_88 s) (bR_2 s), xB_s, zAI (i := a.toNat) (bT_90 s) (bL_90 s) (by rw [wr_id (by omega) (by omega)]; omega) (by omega), e3]
  refine ⟨I3, rfl, fun z => by omega, fun _ => ⟨c2.1, c2.2, c1, ⟨fun q q1 q2 q3 q4 q5 => ?_, fun i q1 q2 q3 q4 q5 => ?_⟩, by rw [d2, e90], ?_⟩⟩
  · rw [d1 q q2, b1 q q1 q4]
    exact a1.1 q q1 q3
  · rw [d1 88 (by omega), b2 i q5]
    exact a1.2 i q1 q2 q3 q4
  · exact (b4.of (a1.2 31 (by omega) (by omega) (by omega) (by omega)) (a1.1 90 (by omega) (by omega)) (a1.1 101 (by omega) (by omega))).to (by rw [d1 88 (by omega)]) (d1 101 (by omega))
noncomputable def roundV (K : Nat → Int) (L : LwV) (a b c : Int) : Int := @ite _ (a = b ∨ b = c ∨ a = c) (Classical.propDecidable _) (-1) (@ite _ ((0 ≤ a ∧ a < K 183) ∧ (0 ≤ b ∧ b < K 183) ∧ (0 ≤ c ∧ c < K 183)) (Classical.propDecidable _) (@ite _ (canRd K L a b c) (Classical.propDecidable _) (K c.toNat) (-3)) (-2))
theorem roundF_a {K : Nat → Int} {a b c : Int} : roundF K a b c a.toNat = K c.toNat := by
  unfold roundF upF
  rw [if_pos rfl]
theorem m_roundK (s : ShM h 88) (k : KOk (I 90)) (hL : LwR (I 90) L) {u : Nat} (e31 : I 88 31 = (u : Int)) (hu : u ≤ 16) (a b c : Int) : ∃ I', rn (d + 47) 237 [iR (some 88), iI a, iI b, iI c] (st h I J) = some (oI (roundV (I 90) L a b c), st h I' J) ∧ (roundV (I 90) L a b c < 0 → AsFr I' I) ∧ (0 ≤ roundV (I 90) L a b c → ((0 ≤ a ∧ a < I 90 183) ∧ (0 ≤ b ∧ b < I 90 183) ∧ (0 ≤ c ∧ c < I 90 183)) ∧ (a ≠ b ∧ b ≠ c ∧ a ≠ c) ∧ KtG I' I (roundF (I 90) a b c) 1) := by
  have hn := k.1
  unfold roundV
  rw [r_M_roundsKept, e_M_roundsKept]
  by_cases c0 : a = b ∨ b = c ∨ a = c
  · rw [if_pos c0]
    refine ⟨I, ?_, fun _ => AsFr.rf I, fun z => absurd z (by decide)⟩
    by_cases q1 : a = b
    · rw [if_pos q1]
    · rw [if_neg q1]
      by_cases q2 : b = c
      · rw [if_pos q2]
      · rw [if_neg q2, if_pos (by omega)]
  have c1 : a ≠ b := fun z => c0 (Or.inl z)
  have ht := s_areTwo (d := d + 43) (h := h) (I := I) (J := J) s a b hn
  have ht' : rn (d + 46) 162 [iR (some 88), iI a, iI b] (st h I J) = some (oI (if (0 ≤ a ∧ a < I 90 183) ∧ (0 ≤ b ∧ b < I 90 183) then 1 else 0), st h I J) := by
    rw [ht]
    exact congrArg (fun x => some (oI x, st h I J)) (two_if (K := I 90) c1)
  have ht2 : rn (d + 46) 161 [iR (some 88), iI c] (st h I J) = some (oI (if 0 ≤ c ∧ c < I 90 183 then 1 else 0), st h I J) := s_isTownM (d := d + 44) s c hn
  rw [if_neg c0, if_neg c1, if_neg (fun z => c0 (Or.inr (Or.inl z))), if_neg (fun z => c0 (Or.inr (Or.inr z))), yck (bT_88 s), ht', kI_o]
  by_cases c2 : (0 ≤ a ∧ a < I 90 183) ∧ (0 ≤ b ∧ b < I 90 183)
  case neg =>
    rw [if_neg c2, if_neg (show ¬ ((0 ≤ a ∧ a < I 90 183) ∧ (0 ≤ b ∧ b < I 90 183) ∧ (0 ≤ c ∧ c < I 90 183)) from fun z => c2 ⟨z.1, z.2.1⟩), if_pos rfl]
    exact ⟨I, rfl, fun _ => AsFr.rf I, fun z => absurd z (by decide)⟩
  rw [if_pos c2, if_neg (by decide), yck (bT_88 s), ht2, kI_o]
  by_cases c4 : 0 ≤ c ∧ c < I 90 183
  case neg =>
    rw [if_neg c4, if_neg (show ¬ ((0 ≤ a ∧ a < I 90 183) ∧ (0 ≤ b ∧ b < I 90 183) ∧ (0 ≤ c ∧ c < I 90 183)) from fun z => c4 z.2.2), if_pos rfl]
    exact ⟨I, rfl, fun _ => AsFr.rf I, fun z => absurd z (by decide)⟩
  rw [if_pos c4, if_pos (show (0 ≤ a ∧ a < I 90 183) ∧ (0 ≤ b ∧ b < I 90 183) ∧ (0 ≤ c ∧ c < I 90 183) from ⟨c2.1, c2.2, c4⟩), if_neg (by decide)]
  obtain ⟨I1, v, a1, a2, a3, a4⟩ := m_canRd (d := d) (J := J) s k hL c2.1 c2.2 c4
  rw [yck (bT_88 s), a2, kI_o]
  by_cases c3 : canRd (I 90) L a b c
  case neg =>
    rw [if_neg c3, if_pos (a3.resolve_right fun z => c3 (a4.mp z))]
    exact ⟨I1, rfl, fun _ => a1, fun z => absurd z (by decide)⟩
  have hb0 := k.2.1.1 c.toNat (by omega)
  obtain ⟨I2, b1, b2, b3, b4⟩ := s_keeps (d := d + 45) (J := J) (kind := 1) (I := I1) s (u := u) (by rw [a1.2 31 (by omega) (by omega) (by omega) (by omega)]; exact e31) hu
  obtain ⟨I3, d1, d2, d3⟩ := m_goes (d := d + 45) (I := I2) (J := J) s (a := a) (b := b) (c := c) (by omega) (by omega) (by omega) (fun z => c0 (Or.inr (Or.inl z))) (fun z => c0 (Or.inr (Or.inr z)))
  have e90 : I2 90 = I 90 := (b1 90 (by omega) (by omega)).trans (a1.1 90 (by omega) (by omega))
  have e3 : I3 90 a.toNat = I 90 c.toNat := by rw [d2, e90, roundF_a]
  rw [if_pos c3, if_neg (by rw [a4.mpr c3]; decide), yck (bT_88 s), b3, kV_o, yck (bT_88 s), d3, kV_o, ygR (bT_88 s) (bR_2 s), xB_s, zAI (i := a.toNat) (bT_90 s) (bL_90 s) (by rw [wr_id (by omega) (by omega)]; omega) (by omega), e3]
  refine ⟨I3, rfl, fun z => by omega, fun _ => ⟨⟨c2.1, c2.2, c4⟩, ⟨c1, fun z => c0 (Or.inr (Or.inl z)), fun z => c0 (Or.inr (Or.inr z))⟩, ⟨fun q q1 q2 q3 q4 q5 => ?_, fun i q1 q2 q3 q4 q5 => ?_⟩, by rw [d2, e90], ?_⟩⟩
  · rw [d1 q q2, b1 q q1 q4]
    exact a1.1 q q1 q3
  · rw [d1 88 (by omega), b2 i q5]
    exact a1.2 i q1 q2 q3 q4
  · exact (b4.of (a1.2 31 (by omega) (by omega) (by omega) (by omega)) (a1.1 90 (by omega) (by omega)) (a1.1 101 (by omega) (by omega))).to (by rw [d1 88 (by omega)]) (d1 101 (by omega))
noncomputable def closeV (K : Nat → Int) (a b : Int) : Int := @ite _ (a = b) (Classical.propDecidable _) (-1) (@ite _ ((0 ≤ a ∧ a < K 183) ∧ (0 ≤ b ∧ b < K 183)) (Classical.propDecidable _) (@ite _ (milesK K a b = 0) (Classical.propDecidable _) (-3) (1 - K (63 + (7 * a + b).toNat))) (-2))
def closeF (K : Nat → Int) (a b : Int) : Nat → Int := upF (upF K (63 + (7 * a + b).toNat) (1 - K (63 + (7 * a + b).toNat))) (63 + (7 * b + a).toNat) (1 - K (63 + (7 * a + b).toNat))
theorem m_closeK (s : ShM h 88) (k : KOk (I 90)) {u : Nat} (e31 : I 88 31 = (u : Int)) (hu : u ≤ 16) (a b : Int) : ∃ I', rn (d + 47) 238 [iR (some 88), iI a, iI b] (st h I J) = some (oI (closeV (I 90) a b), st h I' J) ∧ (closeV (I 90) a b < 0 → AsFr I' I) ∧ (0 ≤ closeV (I 90) a b → (0 ≤ a ∧ a < I 90 183) ∧ (0 ≤ b ∧ b < I 90 183) ∧ a ≠ b ∧ KtG I' I (closeF (I 90) a b) 2) := by
  have hn := k.1
  unfold closeV
  rw [r_M_closesKept, e_M_closesKept]
  by_cases c1 : a = b
  · rw [if_pos c1, if_pos c1]
    exact ⟨I, rfl, fun _ => AsFr.rf I, fun z => absurd z (by decide)⟩
  have ht := s_areTwo (d := d + 43) (h := h) (I := I) (J := J) s a b hn
  have ht' : rn (d + 46) 162 [iR (some 88), iI a, iI b] (st h I J) = some (oI (if (0 ≤ a ∧ a < I 90 183) ∧ (0 ≤ b ∧ b < I 90 183) then 1 else 0), st h I J) := by
    rw [ht]
    exact congrArg (fun x => some (oI x, st h I J)) (two_if (K := I 90) c1)
  rw [if_neg c1, if_neg c1, yck (bT_88 s), ht', kI_o]
  by_cases c2 : (0 ≤ a ∧ a < I 90 183) ∧ (0 ≤ b ∧ b < I 90 183)
  case neg =>
    rw [if_neg c2, if_neg c2, if_pos rfl]
    exact ⟨I, rfl, fun _ => AsFr.rf I, fun z => absurd z (by decide)⟩
  have hm := s_milesOf (d := d + 44) (h := h) (I := I) (J := J) s (x := a) (y := b) (by omega) (by omega)
  have em : I (88 + 2) (120 + (7 * a + b)).toNat = milesK (I 90) a b := by
    unfold milesK
    rw [show (120 + (7 * a + b)).toNat = 120 + (7 * a + b).toNat by omega]
  rw [em] at hm
  rw [if_pos c2, if_pos c2, if_neg (by decide), yck (bT_88 s), hm, kI_o]
  by_cases c3 : milesK (I 90) a b = 0
  · rw [if_pos c3, if_pos c3]
    exact ⟨I, rfl, fun _ => AsFr.rf I, fun z => absurd z (by decide)⟩
  have hc := (k.2.2.1.2.1 (7 * a + b).toNat (by omega)).2.1
  obtain ⟨I2, b1, b2, b3, b4⟩ := s_keeps (d := d + 45) (J := J) (kind := 2) (I := I) s (u := u) e31 hu
  have e90 : I2 90 = I 90 := b1 90 (by omega) (by omega)
  rw [if_neg c3, if_neg c3, yck (bT_88 s), b3, kV_o, ygR (bT_88 s) (bR_2 s), s_pairAt (d := d + 45) _ (by omega) (by omega), kI_o, xB_s, zAI (i := 63 + (7 * a + b).toNat) (bT_90 s) (bL_90 s) (by rw [wr_id (by omega) (by omega)]; omega) (by omega), e90, ygR (bT_88 s) (bR_2 s), s_pairAt (d := d + 45) _ (by omega) (by omega), kI_o, xB_s, wr_id (x := 1 - I 90 (63 + (7 * a + b).toNat)) (by omega) (by omega), zSI (i := 63 + (7 * a + b).toNat) (bT_90 s) (by omega) (bL_90 s) (by rw [wr_id (by omega) (by omega)]; omega) (by omega), ygR (bT_88 s) (bR_2 s), s_pairAt (d := d + 45) _ (by omega) (by omega), kI_o, xB_s, zSI (i := 63 + (7 * b + a).toNat) (bT_90 s) (by omega) (bL_90 s) (by rw [wr_id (by omega) (by omega)]; omega) (by omega)]
  refine ⟨_, rfl, fun z => by omega, fun _ => ⟨c2.1, c2.2, c1, ⟨fun q q1 q2 q3 q4 q5 => ?_, fun i q1 q2 q3 q4 q5 => ?_⟩, by rw [up_F, up_F, e90]; rfl, ?_⟩⟩
  · rw [up_na q2, up_na q2]
    exact b1 q q1 q4
  · rw [up_na (by omega), up_na (by omega)]
    exact b2 i q5
  · exact b4.to (by rw [up_na (by omega), up_na (by omega)]) (by rw [up_na (by omega), up_na (by omega)])
end P88
