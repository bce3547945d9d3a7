/-! home: the reference (by program, wip/whole/gen98zi.py) -/
/-- the arrangement of a row, the rest each their own -/
def arK (K : Nat → Int) (i : Nat) : Nat := if (i : Int) < K 183 then (K i).toNat else i
def ChFr (I' I : Nat → Nat → Int) : Prop := (∀ b, b ≠ 88 → b ≠ 100 → b ≠ 108 → b ≠ 109 → b ≠ 110 → b ≠ 111 → b ≠ 112 → I' b = I b) ∧ ∀ i, i ≠ 22 → i ≠ 23 → i ≠ 24 → i ≠ 25 → I' 88 i = I 88 i
/-- what home tells, of what was found -/
def homV (S : BSt) (g : Nat) (x : Int) : Int := if x = -1 then (depB S S.1 g : Int) else if x < (depB S S.1 g : Int) then (S.2.2.2 (ancB S (depB S S.1 g - 1 - x.toNat) g) : Int) else -1
section P98zi
variable {d n : Nat} {I I' J : Nat → Nat → Int} {h : IH} {a : Nat → Nat} {K : Nat → Int} {L : LwV} {snd : Nat → Nat → Nat → Bool} {S : BSt}
theorem arK_perm (k : KOk K) (en : K 183 = (n : Int)) : PermN n (arK K) := by
  have e : ∀ i, i < n → arK K i = (K i).toNat := fun i hi => if_pos (by omega)
  refine ⟨fun i hi => ?_, fun i j hi hj z => ?_, fun s hs => ?_⟩
  · rw [e i hi]
    have := k.2.1.1 i (by omega)
    omega
  · rw [e i hi, e j hj] at z
    have h1 := k.2.1.1 i (by omega)
    have h2 := k.2.1.1 j (by omega)
    have h3 := atK_of k (u := i) (by omega)
    have h4 := atK_of k (u := j) (by omega)
    rw [show K i = K j by omega, h4] at h3
    omega
  · obtain ⟨u, u1, u2⟩ := k.2.1.2 s (by omega)
    exact ⟨u, by omega, by rw [e u (by omega), u2]; omega⟩
theorem st0B_ok (p : PermN n a) : BOk n (st0B a) := ⟨Nat.one_pos, fun _ _ => p, fun i j hi hj _ => by
  have h1 : i < 1 := hi
  have h2 : j < 1 := hj
  omega, fun i i0 hi => by
  have h1 : i < 1 := hi
  omega⟩
theorem l_ch6 (m : ShM h 88) : ∀ (q i f : Nat) (I : Nat → Nat → Int), i + q = 5040 → (∀ j, j < i → I 108 j = -1) → ∃ I1, (∀ b, b ≠ 108 → I1 b = I b) ∧ (∀ j, j < 5040 → I1 108 j = -1) ∧ lp d 261 (f + q + 1) 6 [some (iR (some 88)), some (iI (i : Int)), none] [] (st h I J) = lp d 261 f 28 [some (iR (some 88)), some (iI 0), none] [] (st h I1 J) := by
  intro q
  induction q with
  | zero =>
    intro i f I hi e
    exact ⟨I, fun _ _ => rfl, fun j hj => e j (by omega), by rw [Nat.add_zero, e_M_comesHome_6, if_neg (by omega)]⟩
  | succ q ih =>
    intro i f I hi e
    obtain ⟨I1, a1, a2, a3⟩ := ih (i + 1) f (up I 108 i (-1)) (by omega) (fun j hj => by
      rw [up_at]
      by_cases c : j = i
      · rw [if_pos c]
      · rw [if_neg c]
        exact e j (by omega))
    refine ⟨I1, fun b hb => (a1 b hb).trans (up_na hb), a2, ?_⟩
    rw [show f + (q + 1) + 1 = (f + q + 1) + 1 by omega, e_M_comesHome_6, if_pos (by omega), ygR (bT_88 m) (bR_39 m), xB_s, zSI (i := i) (bT_108 m) (by omega) (bL_108 m) rfl (by omega), wr_id (x := (i : Int) + 1) (by omega) (by omega), show (i : Int) + 1 = ((i + 1 : Nat) : Int) by omega]
    exact a3
theorem l_ch28 (m : ShM h 88) (k : KOk K) (en : K 183 = (n : Int)) : ∀ (q i f : Nat) (I : Nat → Nat → Int), i + q = n → I 90 = K → (∀ j, j < i → I 111 j = (arK K j : Int)) → ∃ I1, (∀ b, b ≠ 111 → I1 b = I b) ∧ ArM I1 n (arK K) ∧ lp (d + 2) 261 (f + q + 1) 28 [some (iR (some 88)), some (iI (i : Int)), none] [] (st h I J) = lp (d + 2) 261 f 83 [some (iR (some 88)), some (iI 0), some (iI 1)] [] (st h (up (up I1 110 0 (numA n (arK K) : Nat)) 108 (numA n (arK K)) 49) J) := by
  have hn := k.1
  intro q
  induction q with
  | zero =>
    intro i f I hi e90 e
    have ar : ArM I n (arK K) := fun j hj => e j (by omega)
    have hnum := s_numOf (d := d) (J := J) m (I := I) (by rw [e90]; exact en) (by omega) ar
    have hl := numA_lt (a := arK K) (n := n) (by omega)
    refine ⟨I, fun _ _ => rfl, ar, ?_⟩
    rw [Nat.add_zero, e_M_comesHome_28, yck (bT_88 m), m_many m (x := (n : Int)) (by rw [e90]; exact en), kI_o, if_neg (by omega), ygR (bT_88 m) (bR_41 m), yck (bT_88 m), hnum, kI_o, xB_s, zSI (i := 0) (j := 0) (bT_110 m) (by omega) (bL_110 m) rfl (by omega), ygR (bT_88 m) (bR_39 m), ygR (bT_88 m) (bR_41 m), xB_s, yaIv (i := 0) (j := 0) (bT_110 m) (bL_110 m) rfl (by omega) (up_eq _ _ _ _), xB_s, zSI (i := numA n (arK K)) (bT_108 m) (by omega) (bL_108 m) rfl hl]
  | succ q ih =>
    intro i f I hi e90 e
    have hK := k.2.1.1 i (by omega)
    have ea : arK K i = (K i).toNat := if_pos (by omega)
    obtain ⟨I1, a1, a2, a3⟩ := ih (i + 1) f (up I 111 i (K i)) (by omega) (by rw [up_na (by omega)]; exact e90) (fun j hj => by
      rw [up_at]
      by_cases c : j = i
      · rw [if_pos c, c, ea]
        omega
      · rw [if_neg c]
        exact e j (by omega))
    refine ⟨I1, fun b hb => (a1 b hb).trans (up_na hb), a2, ?_⟩
    rw [show f + (q + 1) + 1 = (f + q + 1) + 1 by omega, e_M_comesHome_28, yck (bT_88 m), m_many m (x := (n : Int)) (by rw [e90]; exact en), kI_o, if_pos (by omega), ygR (bT_88 m) (bR_42 m), ygR (bT_88 m) (bR_2 m), xB_s, wr_id (x := 0 + (i : Int)) (by omega) (by omega), yaIv (i := i) (bT_90 m) (bL_90 m) (by omega) (by omega) (by rw [e90]), xB_s, zSI (i := i) (bT_111 m) (by omega) (bL_111 m) rfl (by omega), wr_id (x := (i : Int) + 1) (by omega) (by omega), show (i : Int) + 1 = ((i + 1 : Nat) : Int) by omega]
    exact a3
theorem m_comes (m : ShM h 88) (k : KOk K) (hL : LwR K L) (en : K 183 = (n : Int)) (e90 : I 90 = K) : ∃ I1, ChFr I1 I ∧ (HwM I1 n (bfsB n (sndK K L) (arK K)) ∧ BOk n (bfsB n (sndK K L) (arK K))) ∧ rn (d + 47) 261 [iR (some 88)] (st h I J) = some (oI (if inB (nmB n (bfsB n (sndK K L) (arK K))) 0 (bfsB n (sndK K L) (arK K)).1 = true then 1 else 0), st h I1 J) := by
  have hn := k.1
  have p := arK_perm k en
  obtain ⟨I1, a1, a2, a3⟩ := s_sends (d := d) (J := J) (I := I) m k hL en e90
  obtain ⟨I2, b1, b2, b3⟩ := l_ch6 (d := d + 46) (h := h) (J := J) m 5040 0 994958 I1 rfl (fun j hj => absurd hj (Nat.not_lt_zero j))
  have b3' : lp (d + 46) 261 999999 6 [some (iR (some 88)), some (iI 0), none] [] (st h I1 J) = _ := b3
  have e92 : I2 90 = K := by rw [b1 90 (by omega), a1.1 90 (by omega) (by omega) (by omega)]; exact e90
  obtain ⟨I3, c1, c2, c3⟩ := l_ch28 (d := d + 44) (h := h) (J := J) m k en n 0 (994957 - n) I2 (by omega) e92 (fun j hj => absurd hj (Nat.not_lt_zero j))
  rw [show 994957 - n + n + 1 = 994958 by omega] at c3
  have c3' : lp (d + 46) 261 994958 28 [some (iR (some 88)), some (iI 0), none] [] (st h I2 J) = _ := c3
  obtain ⟨I4, eI4⟩ : ∃ I4, I4 = up (up I3 110 0 (numA n (arK K) : Nat)) 108 (numA n (arK K)) 49 := ⟨_, rfl⟩
  rw [← eI4] at c3'
  have e4 : ∀ b, b ≠ 108 → b ≠ 110 → I4 b = I3 b := fun b q1 q2 => by rw [eI4, up_na q1, up_na q2]
  have w0 : HwM I4 n (st0B (arK K)) := by
    refine ⟨fun i hi => ?_, fun v hv hv2 => ?_, fun i i0 hi => ?_⟩
    · have h1 : i < 1 := hi
      rw [show i = 0 by omega]
      refine ⟨?_, ?_⟩
      · rw [eI4, up_na (by omega), up_eq]
        rfl
      · rw [eI4]
        show up (up I3 110 0 _) 108 (numA n (arK K)) 49 108 (numA n (arK K)) = _
        rw [up_eq, if_pos rfl]
    · have hv3 := inB_not.1 hv2 0 (Nat.one_pos)
      have hv4 : numA n (arK K) ≠ v := hv3
      rw [eI4, up_ni (Ne.symm hv4), up_na (by omega), c1 108 (by omega)]
      exact b2 v hv
    · have h1 : i < 1 := hi
      omega
  obtain ⟨I5, d1, d2, d3⟩ := l_ch83 (d := d + 42) (h := h) (J := J) (snd := sndK K L) m (show n ≤ 7 by omega) 5040 0 (994957 - n - 5041) I4 (st0B (arK K)) (by omega) (Nat.zero_le _) (by rw [e4 90 (by omega) (by omega), c1 90 (by omega), e92]; exact en) w0 (st0B_ok p) (a2.fr (by rw [e4 112 (by omega) (by omega), c1 112 (by omega), b1 112 (by omega)]))
  rw [show 994957 - n - 5041 + 5040 + 1 = 994957 - n by omega] at d3
  have d3' : lp (d + 46) 261 (994957 - n) 83 [some (iR (some 88)), some (iI 0), some (iI 1)] [] (st h I4 J) = _ := d3
  refine ⟨I5, ⟨fun b q1 q2 q3 q4 q5 q6 q7 => by rw [d1 b q3 q4 q5 q6, e4 b q3 q5, c1 b q6, b1 b q3, a1.1 b q1 q2 q7], fun i q1 q2 q3 q4 => by rw [d1 88 (by omega) (by omega) (by omega) (by omega), e4 88 (by omega) (by omega), c1 88 (by omega), b1 88 (by omega), a1.2 i q1 q2 q3 q4]⟩, d2, ?_⟩
  rw [r_M_comesHome, e_M_comesHome, yck (bT_88 m), a3, kV_o, b3', c3', d3']
  rfl
end P98zi
