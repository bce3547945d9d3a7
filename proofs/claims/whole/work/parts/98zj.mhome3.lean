/-! The way back; home: the reference (by program, wip/whole/gen98zj.py) -/
/-- what home answers -/
def homA (n : Nat) (S : BSt) (x : Int) : Int := if x < -1 then -1 else if inB (nmB n S) 0 S.1 = true then homV S (idxB (nmB n S) 0 S.1) x else -1
section P98zj
variable {d n : Nat} {I I' J : Nat → Nat → Int} {h : IH} {a : Nat → Nat} {K : Nat → Int} {L : LwV} {snd : Nat → Nat → Nat → Bool} {S : BSt} {N : Nat → Nat}
theorem idxB_ok {v : Nat} : ∀ t, inB N v t = true → idxB N v t < t ∧ N (idxB N v t) = v
  | 0, h => by cases h
  | t + 1, h => by
    show (if N t = v then t else idxB N v t) < t + 1 ∧ N (if N t = v then t else idxB N v t) = v
    by_cases c : N t = v
    · rw [if_pos c]
      exact ⟨by omega, c⟩
    · have h' : (decide (N t = v) || inB N v t) = true := h
      rw [if_neg c]
      have := idxB_ok t (by simpa [c] using h')
      exact ⟨by omega, this.2⟩
theorem dep_fuel (b : BOk n S) : ∀ f j, j ≤ f → j < S.1 → depB S (f + 1) j = depB S f j
  | 0, j, hj, _ => by
    have : j = 0 := by omega
    subst this
    rfl
  | f + 1, j, hj, hs => by
    show (if j = 0 then 0 else 1 + depB S (f + 1) (S.2.2.1 j)) = (if j = 0 then 0 else 1 + depB S f (S.2.2.1 j))
    by_cases c : j = 0
    · rw [if_pos c, if_pos c]
    · have p := (b.2.2.2 j (by omega) hs).1
      rw [if_neg c, if_neg c, dep_fuel b f (S.2.2.1 j) (by omega) (by omega)]
theorem dep_s (b : BOk n S) {i : Nat} (i0 : i ≠ 0) (hi : i < S.1) : depB S S.1 i = 1 + depB S S.1 (S.2.2.1 i) := by
  have p := (b.2.2.2 i (by omega) hi).1
  obtain ⟨f, ef⟩ : ∃ f, S.1 = f + 1 := ⟨S.1 - 1, by omega⟩
  have h := dep_fuel b f (S.2.2.1 i) (by omega) (by omega)
  rw [ef, h]
  show (if i = 0 then 0 else 1 + depB S f (S.2.2.1 i)) = _
  rw [if_neg i0]
theorem dep_0 : depB S S.1 0 = 0 := by
  cases S.1 with
  | zero => rfl
  | succ f => rfl
theorem dep_le : ∀ f i, depB S f i ≤ f
  | 0, _ => Nat.le_refl _
  | f + 1, i => by
    show (if i = 0 then 0 else 1 + depB S f (S.2.2.1 i)) ≤ f + 1
    have := dep_le f (S.2.2.1 i)
    split <;> omega
theorem l_h18 (m : ShM h 88) (hn : n ≤ 7) (w : HwM I n S) (b : BOk n S) (x : Int) : ∀ (q i c f : Nat), i ≤ q → i < S.1 → c + depB S S.1 i ≤ 5040 → ∃ f', f ≤ f' ∧ lp d 263 (f + q + 1) 18 [some (iR (some 88)), some (iI x), some (iI (c : Int)), some (iI (nmB n S i : Nat)), none] [] (st h I J) = lp d 263 (f' + 1) 18 [some (iR (some 88)), some (iI x), some (iI ((c + depB S S.1 i : Nat) : Int)), some (iI (nmB n S 0 : Nat)), none] [] (st h I J) := by
  intro q
  induction q with
  | zero =>
    intro i c f hi hs hc
    have : i = 0 := by omega
    subst this
    exact ⟨f, Nat.le_refl _, by rw [dep_0]; rfl⟩
  | succ q ih =>
    intro i c f hi hs hc
    by_cases i0 : i = 0
    · subst i0
      exact ⟨f + (q + 1), by omega, by rw [dep_0]; rfl⟩
    · obtain ⟨p, x', y', p1, p2, p3⟩ := b.2.2.2 i (by omega) hs
      have e8 := (w.1 i hs).2
      rw [if_neg i0] at e8
      have e9 := w.2.2 i (by omega) hs
      have ds := dep_s b i0 hs
      obtain ⟨f', f1, f2⟩ := ih (S.2.2.1 i) (c + 1) f (by omega) (by omega) (by omega)
      have hl := numA_lt (a := S.2.1 i) hn
      have hl' : nmB n S i < 5040 := hl
      refine ⟨f', f1, ?_⟩
      rw [show c + depB S S.1 i = c + 1 + depB S S.1 (S.2.2.1 i) by omega, show f + (q + 1) + 1 = (f + q + 1) + 1 by omega, e_M_home_18, ygR (bT_88 m) (bR_39 m), xB_s, yaIv (i := nmB n S i) (bT_108 m) (bL_108 m) rfl hl' e8, if_neg (by omega), ygR (bT_88 m) (bR_40 m), xB_s, yaIv (i := nmB n S i) (bT_109 m) (bL_109 m) rfl hl' e9, wr_id (x := (c : Int) + 1) (by omega) (by omega), show (c : Int) + 1 = ((c + 1 : Nat) : Int) by omega]
      exact f2
theorem l_h70 (m : ShM h 88) (hn : n ≤ 7) (w : HwM I n S) (b : BOk n S) {x : Nat} (hx : x ≤ 5040) : ∀ (q i f : Nat), i < S.1 → depB S S.1 i = x + q + 1 → lp d 263 (f + q + 1) 70 [some (iR (some 88)), some (iI (x : Int)), none, some (iI (nmB n S i : Nat)), some (iI ((x + q : Nat) : Int))] [] (st h I J) = some (oI (S.2.2.2 (ancB S q i) : Nat), st h I J) := by
  intro q
  have dle := dep_le (S := S) S.1
  have ble := b.le hn
  induction q with
  | zero =>
    intro i f hs hd
    have i0 : i ≠ 0 := fun z => by
      rw [z, dep_0] at hd
      omega
    have e8 := (w.1 i hs).2
    rw [if_neg i0] at e8
    have hl : nmB n S i < 5040 := numA_lt (a := S.2.1 i) hn
    rw [Nat.add_zero, e_M_home_70, if_pos (by omega), ygR (bT_88 m) (bR_39 m), xB_s, yaIv (i := nmB n S i) (bT_108 m) (bL_108 m) rfl hl e8]
    rfl
  | succ q ih =>
    intro i f hs hd
    have i0 : i ≠ 0 := fun z => by
      rw [z, dep_0] at hd
      omega
    have p := (b.2.2.2 i (by omega) hs).1
    have e9 := w.2.2 i (by omega) hs
    have ds := dep_s b i0 hs
    have hl : nmB n S i < 5040 := numA_lt (a := S.2.1 i) hn
    have dl := dle i
    rw [show f + (q + 1) + 1 = (f + q + 1) + 1 by omega, e_M_home_70, if_neg (by omega), ygR (bT_88 m) (bR_40 m), xB_s, yaIv (i := nmB n S i) (bT_109 m) (bL_109 m) rfl hl e9, wr_id (x := ((x + (q + 1) : Nat) : Int) + (-1)) (by omega) (by omega), show ((x + (q + 1) : Nat) : Int) + (-1) = ((x + q : Nat) : Int) by omega, ih (S.2.2.1 i) f (by omega) (by omega)]
    rfl
theorem m_home (m : ShM h 88) (k : KOk K) (hL : LwR K L) (en : K 183 = (n : Int)) (e90 : I 90 = K) (x : Int) : ∃ I1, ChFr I1 I ∧ rn (d + 48) 263 [iR (some 88), iI x] (st h I J) = some (oI (homA n (bfsB n (sndK K L) (arK K)) x), st h I1 J) := by
  have hn := k.1
  by_cases c1 : x < -1
  · refine ⟨I, ⟨fun _ _ _ _ _ _ _ _ => rfl, fun _ _ _ _ _ => rfl⟩, ?_⟩
    unfold homA
    rw [if_pos c1, r_M_home, e_M_home, if_pos c1]
  obtain ⟨I1, a1, ⟨a2, a3⟩, a4⟩ := m_comes (d := d) (J := J) (I := I) m k hL en e90
  refine ⟨I1, a1, ?_⟩
  unfold homA
  rw [if_neg c1, r_M_home, e_M_home, if_neg c1, yck (bT_88 m), a4, kI_o]
  cases e : inB (nmB n (bfsB n (sndK K L) (arK K))) 0 (bfsB n (sndK K L) (arK K)).1 with
  | false => rw [if_neg (show ¬ (false = true) by decide), if_neg (show ¬ (false = true) by decide), if_pos (show (0 : Int) = 0 from rfl)]
  | true =>
    rw [if_pos (show (true = true) from rfl), if_pos (show (true = true) from rfl), if_neg (show ¬ (1 : Int) = 0 by decide)]
    obtain ⟨S, eS⟩ : ∃ S, S = bfsB n (sndK K L) (arK K) := ⟨_, rfl⟩
    rw [← eS] at e a2 a3 ⊢
    obtain ⟨g1, g2⟩ := idxB_ok S.1 e
    obtain ⟨g, eg⟩ : ∃ g, g = idxB (nmB n S) 0 S.1 := ⟨_, rfl⟩
    rw [← eg] at g1 g2 ⊢
    have ble := a3.le (show n ≤ 7 by omega)
    have dl := dep_le (S := S) S.1 g
    obtain ⟨f', f1, f2⟩ := l_h18 (d := d + 47) (J := J) m (show n ≤ 7 by omega) a2 a3 x g g 0 (999998 - g) (Nat.le_refl _) g1 (by omega)
    rw [show 999998 - g + g + 1 = 999999 by omega, g2, Nat.zero_add] at f2
    have f2' : lp (d + 47) 263 999999 18 [some (iR (some 88)), some (iI x), some (iI 0), some (iI 0), none] [] (st h I1 J) = _ := f2
    have h0 := (a2.1 0 a3.1).2
    rw [if_pos rfl] at h0
    have hl : nmB n S 0 < 5040 := numA_lt (a := S.2.1 0) (by omega)
    rw [f2', e_M_home_18, ygR (bT_88 m) (bR_39 m), xB_s, yaIv (i := nmB n S 0) (bT_108 m) (bL_108 m) rfl hl h0, if_pos (show (49 : Int) = 49 from rfl)]
    unfold homV
    by_cases c2 : x = -1
    · rw [if_pos c2, if_pos c2, if_pos c2]
    rw [if_neg c2, if_neg c2]
    by_cases c3 : x < (depB S S.1 g : Int)
    · rw [if_pos c3, if_pos c3, if_neg c2]
      obtain ⟨x', ex'⟩ : ∃ x' : Nat, x = (x' : Int) := ⟨x.toNat, by omega⟩
      have r := l_h70 (d := d + 47) (J := J) m (show n ≤ 7 by omega) a2 a3 (x := x') (by omega) (depB S S.1 g - 1 - x') g (f' - (depB S S.1 g - 1 - x') - 1) g1 (by omega)
      rw [show f' - (depB S S.1 g - 1 - x') - 1 + (depB S S.1 g - 1 - x') + 1 = f' by omega, g2, ← ex', show ((x' + (depB S S.1 g - 1 - x') : Nat) : Int) = ((depB S S.1 g : Nat) : Int) - 1 by omega] at r
      rw [wr_id (x := ((depB S S.1 g : Nat) : Int) - 1) (by omega) (by omega), show x.toNat = x' by omega]
      exact r
    · rw [if_neg c3, if_neg c3, if_neg c2]
end P98zj
