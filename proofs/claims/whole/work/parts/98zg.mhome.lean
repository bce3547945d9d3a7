/-! The search for the way home: the reference (by program, wip/whole/gen98zg.py) -/
section P98zg
variable {d n : Nat} {I I' J : Nat → Nat → Int} {h : IH} {a : Nat → Nat} {snd : Nat → Nat → Nat → Bool} {S : BSt}
theorem row_ok {hd x : Nat} : ∀ (k y : Nat) (S : BSt), y + k = n → x < y → BOk n S → hd < S.1 → BOk n (rowB n snd hd x k y S) ∧ S.1 ≤ (rowB n snd hd x k y S).1 ∧ ∀ i, i < S.1 → (rowB n snd hd x k y S).2.1 i = S.2.1 i
  | 0, _, S, _, _, b, _ => ⟨b, Nat.le_refl _, fun _ _ => rfl⟩
  | k + 1, y, S, hy, hx, b, hh => by
    have s := b.step (snd := snd) hh hx (show y < n by omega)
    have r := row_ok (hd := hd) (x := x) k (y + 1) (stepB n snd hd x y S) (by omega) (by omega) s.1 (by omega)
    exact ⟨r.1, Nat.le_trans s.2.1 r.2.1, fun i hi => (r.2.2 i (by omega)).trans (s.2.2.2 i hi).1⟩
theorem all_ok {hd : Nat} : ∀ (k x : Nat) (S : BSt), x + k = n → BOk n S → hd < S.1 → BOk n (allB n snd hd k x S) ∧ S.1 ≤ (allB n snd hd k x S).1
  | 0, _, S, _, b, _ => ⟨b, Nat.le_refl _⟩
  | k + 1, x, S, hx, b, hh => by
    have r := row_ok (snd := snd) (hd := hd) (x := x) (n - (x + 1)) (x + 1) S (by omega) (by omega) b hh
    have q := all_ok k (x + 1) _ (by omega) r.1 (show hd < (rowB n snd hd x (n - (x + 1)) (x + 1) S).1 by omega)
    exact ⟨q.1, Nat.le_trans r.2.1 q.2⟩
theorem l_goes10 (m : ShM h 88) (hn : n ≤ 7) {hd : Nat} {v : Int} : ∀ (k x f : Nat) (I : Nat → Nat → Int) (S : BSt), x + k = n → I 90 183 = (n : Int) → HwM I n S → BOk n S → hd < S.1 → ArM I n (S.2.1 hd) → SdM I n snd → v = (nmB n S hd : Nat) → ∃ I1, (∀ b, b ≠ 108 → b ≠ 109 → b ≠ 110 → b ≠ 111 → I1 b = I b) ∧ HwM I1 n (allB n snd hd k x S) ∧ lp (d + 3) 262 (f + 10 * k + 1) 10 [some (iR (some 88)), some (iI v), none, some (iI (S.1 : Int)), some (iI (x : Int)), none, none] [] (st h I J) = some (oI ((allB n snd hd k x S).1 : Int), st h I1 J) := by
  intro k
  induction k with
  | zero =>
    intro x f I S hx en w b hh ar sd hv
    refine ⟨I, fun _ _ _ _ _ => rfl, w, ?_⟩
    rw [show f + 10 * 0 + 1 = f + 1 by omega, e_M_goesOn_10, yck (bT_88 m), m_many m en, kI_o, if_neg (by omega)]
    rfl
  | succ k ih =>
    intro x f I S hx en w b hh ar sd hv
    obtain ⟨I1, a1, ⟨a2, a3, a4, a5⟩, a6⟩ := l_goes25 (d := d) (J := J) (snd := snd) m hn (hd := hd) (x := x) (by omega) (n - (x + 1)) (x + 1) (f + 10 * k + 1 + (8 - (n - (x + 1)))) I S (by omega) (by omega) en w b hh ar sd
    rw [show f + 10 * k + 1 + (8 - (n - (x + 1))) + (n - (x + 1)) + 1 = f + 10 * (k + 1) by omega] at a6
    have ro := row_ok (snd := snd) (hd := hd) (x := x) (n - (x + 1)) (x + 1) S (by omega) (by omega) b hh
    obtain ⟨I2, b1, b2, b3⟩ := ih (x + 1) (f + (8 - (n - (x + 1)))) I1 _ (by omega) (by rw [a1 90 (by omega) (by omega) (by omega) (by omega)]; exact en) a2 a3 a4 a5 (sd.fr (a1 112 (by omega) (by omega) (by omega) (by omega))) (by
      rw [hv]
      unfold nmB
      rw [ro.2.2 hd hh])
    rw [show f + (8 - (n - (x + 1))) + 10 * k + 1 = f + 10 * k + 1 + (8 - (n - (x + 1))) by omega] at b3
    refine ⟨I2, fun b z1 z2 z3 z4 => (b1 b z1 z2 z3 z4).trans (a1 b z1 z2 z3 z4), b2, ?_⟩
    rw [← hv] at a6
    rw [e_M_goesOn_10, yck (bT_88 m), m_many m en, kI_o, if_pos (by omega), wr_id (x := (x : Int) + 1) (by omega) (by omega), show (x : Int) + 1 = ((x + 1 : Nat) : Int) by omega, a6]
    exact b3
theorem s_goes (m : ShM h 88) (hn : n ≤ 7) {hd : Nat} (en : I 90 183 = (n : Int)) (w : HwM I n S) (b : BOk n S) (hh : hd < S.1) (sd : SdM I n snd) : ∃ I1, (∀ b, b ≠ 108 → b ≠ 109 → b ≠ 110 → b ≠ 111 → I1 b = I b) ∧ HwM I1 n (allB n snd hd n 0 S) ∧ rn (d + 4) 262 [iR (some 88), iI (nmB n S hd : Nat), iI (S.1 : Int)] (st h I J) = some (oI ((allB n snd hd n 0 S).1 : Int), st h I1 J) := by
  obtain ⟨I1, a1, a2, a3⟩ := s_ordOf (d := d + 1) (J := J) m en hn (b.2.1 hd hh)
  obtain ⟨I2, b1, b2, b3⟩ := l_goes10 (d := d) (J := J) (snd := snd) (hd := hd) (v := (nmB n S hd : Nat)) m hn n 0 (999998 - 10 * n) I1 S (by omega) (by rw [a1 90 (by omega)]; exact en) (w.fr (a1 108 (by omega)) (a1 109 (by omega)) (a1 110 (by omega))) b hh a2 (sd.fr (a1 112 (by omega))) rfl
  rw [show 999998 - 10 * n + 10 * n + 1 = 999999 by omega] at b3
  refine ⟨I2, fun b z1 z2 z3 z4 => (b1 b z1 z2 z3 z4).trans (a1 b z4), b2, ?_⟩
  have a3' : rn (d + 3) 257 [iR (some 88), iI (nmB n S hd : Nat)] (st h I J) = some (o0, st h I1 J) := a3
  rw [r_M_goesOn, e_M_goesOn, yck (bT_88 m), a3', kV_o]
  exact b3
/-- the loop over what is found -/
theorem l_ch83 (m : ShM h 88) (hn : n ≤ 7) : ∀ (q hd f : Nat) (I : Nat → Nat → Int) (S : BSt), 5040 ≤ hd + q → hd ≤ S.1 → I 90 183 = (n : Int) → HwM I n S → BOk n S → SdM I n snd → ∃ I1, (∀ b, b ≠ 108 → b ≠ 109 → b ≠ 110 → b ≠ 111 → I1 b = I b) ∧ (HwM I1 n (goB n snd q hd S) ∧ BOk n (goB n snd q hd S)) ∧ lp (d + 4) 261 (f + q + 1) 83 [some (iR (some 88)), some (iI (hd : Int)), some (iI (S.1 : Int))] [] (st h I J) = some (oI (if inB (nmB n (goB n snd q hd S)) 0 (goB n snd q hd S).1 = true then 1 else 0), st h I1 J) := by
  have fin : ∀ (hd f : Nat) (I : Nat → Nat → Int) (S : BSt), ¬ (hd < S.1 ∧ inB (nmB n S) 0 S.1 = false) → HwM I n S → BOk n S → lp (d + 4) 261 (f + 1) 83 [some (iR (some 88)), some (iI (hd : Int)), some (iI (S.1 : Int))] [] (st h I J) = some (oI (if inB (nmB n S) 0 S.1 = true then 1 else 0), st h I J) := by
    intro hd f I S hc w b
    have hw := w.new b (v := 0) (by omega)
    have r108 : ∀ K : Int → Option IR, xaI (st h I J) 108 0 K = K (I 108 0) := fun K => yaIv (i := 0) (j := 0) (bT_108 m) (bL_108 m) rfl (by omega) rfl
    have tl : (if I 108 0 = (-1) then xZ 0 (st h I J) else xZ 1 (st h I J)) = some (oI (if inB (nmB n S) 0 S.1 = true then 1 else 0), st h I J) := by
      cases e : inB (nmB n S) 0 S.1 with
      | false => rw [if_pos (hw.2 e), if_neg (show ¬ (false = true) by decide), xZ_0]
      | true => rw [if_neg (fun z => by rw [hw.1 z] at e; cases e), if_pos (show (true = true) from rfl), xZ_1]
    rw [e_M_comesHome_83]
    by_cases c : hd < S.1
    · rw [if_pos (by omega), ygR (bT_88 m) (bR_39 m), xB_s, r108, if_neg (fun z => hc ⟨c, hw.1 z⟩), ygR (bT_88 m) (bR_39 m), xB_s, r108]
      exact tl
    · rw [if_neg (by omega), ygR (bT_88 m) (bR_39 m), xB_s, r108]
      exact tl
  intro q
  induction q with
  | zero =>
    intro hd f I S hq hs en w b sd
    have := b.le hn
    exact ⟨I, fun _ _ _ _ _ => rfl, ⟨w, b⟩, fin hd f I S (by omega) w b⟩
  | succ q ih =>
    intro hd f I S hq hs en w b sd
    have ble := b.le hn
    show ∃ I1, _ ∧ (HwM I1 n (if hd < S.1 ∧ inB (nmB n S) 0 S.1 = false then goB n snd q (hd + 1) (allB n snd hd n 0 S) else S) ∧ BOk n (if hd < S.1 ∧ inB (nmB n S) 0 S.1 = false then goB n snd q (hd + 1) (allB n snd hd n 0 S) else S)) ∧ _ = some (oI (if inB (nmB n (if hd < S.1 ∧ inB (nmB n S) 0 S.1 = false then goB n snd q (hd + 1) (allB n snd hd n 0 S) else S)) 0 (if hd < S.1 ∧ inB (nmB n S) 0 S.1 = false then goB n snd q (hd + 1) (allB n snd hd n 0 S) else S).1 = true then 1 else 0), st h I1 J)
    by_cases hc : hd < S.1 ∧ inB (nmB n S) 0 S.1 = false
    case neg =>
      rw [if_neg hc]
      exact ⟨I, fun _ _ _ _ _ => rfl, ⟨w, b⟩, fin hd (f + (q + 1)) I S hc w b⟩
    rw [if_pos hc]
    have hw := w.new b (v := 0) (by omega)
    obtain ⟨I1, a1, a2, a3⟩ := s_goes (d := d) (J := J) (snd := snd) (hd := hd) m hn en w b hc.1 sd
    have al := all_ok (snd := snd) (hd := hd) n 0 S (by omega) b hc.1
    obtain ⟨I2, b1, b2, b3⟩ := ih (hd + 1) f I1 _ (by omega) (by omega) (by rw [a1 90 (by omega) (by omega) (by omega) (by omega)]; exact en) a2 al.1 (sd.fr (a1 112 (by omega) (by omega) (by omega) (by omega)))
    refine ⟨I2, fun b z1 z2 z3 z4 => (b1 b z1 z2 z3 z4).trans (a1 b z1 z2 z3 z4), b2, ?_⟩
    rw [show f + (q + 1) + 1 = (f + q + 1) + 1 by omega, e_M_comesHome_83, if_pos (by omega), ygR (bT_88 m) (bR_39 m), xB_s, yaIv (i := 0) (j := 0) (x := I 108 0) (bT_108 m) (bL_108 m) rfl (by omega) rfl, if_pos (hw.2 hc.2), ygR (bT_88 m) (bR_41 m), xB_s, yaIv (i := hd) (bT_110 m) (bL_110 m) rfl (by omega) (w.1 hd hc.1).1, yck (bT_88 m), a3, kI_o, wr_id (x := (hd : Int) + 1) (by omega) (by omega), show (hd : Int) + 1 = ((hd + 1 : Nat) : Int) by omega]
    exact b3
end P98zg
