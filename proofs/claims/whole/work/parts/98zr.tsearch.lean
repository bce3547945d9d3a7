/-! The loop of the search: the class (by program, wip/whole/gen98zr.py) -/
section P98zr
variable {d n qc pc sc : Nat} {I I' J J1 : Nat → Nat → Int} {h : IH} {a b : Nat → Nat} {snd : Nat → Nat → Nat → Bool} {S : BSt}
theorem row_e {hd x : Nat} : ∀ (k y : Nat) (S : BSt), y + k = n → x < y → BOk n S → hd < S.1 → (rowB n snd hd x k y S).2.2.2 0 = S.2.2.2 0
  | 0, _, _, _, _, _, _ => rfl
  | k + 1, y, S, hy, hx, b, hh => by
    have st := b.step (snd := snd) hh hx (show y < n by omega)
    have r := row_e (hd := hd) (x := x) k (y + 1) (stepB n snd hd x y S) (by omega) (by omega) st.1 (by omega)
    exact r.trans (st.2.2.2 0 b.1).2.2
theorem all_e {hd : Nat} : ∀ (k x : Nat) (S : BSt), x + k = n → BOk n S → hd < S.1 → (allB n snd hd k x S).2.2.2 0 = S.2.2.2 0
  | 0, _, _, _, _, _ => rfl
  | k + 1, x, S, hx, b, hh => by
    have r := row_ok (snd := snd) (hd := hd) (x := x) (n - (x + 1)) (x + 1) S (by omega) (by omega) b hh
    have q := all_e (hd := hd) k (x + 1) (rowB n snd hd x (n - (x + 1)) (x + 1) S) (by omega) r.1 (by omega)
    exact q.trans (row_e (n - (x + 1)) (x + 1) S (by omega) (by omega) b hh)
theorem l_steps (s : ShT h) (wy : WyS h qc pc sc) (w : HwT I J qc pc sc n S) (b : BOk n S) (hS : S.1 ≤ 5040) : ∀ (q i c f : Nat), i ≤ q → i < S.1 → c + depB S S.1 i ≤ 5040 → lp d 97 (f + q + 1) 4 [some (iR (some 83)), none, some (iI (c : Int)), some (iI (i : Int))] [] (st h I J) = some (oI ((c + depB S S.1 i : Nat) : Int), st h I J) := by
  obtain ⟨⟨-, y2, -⟩, -, ⟨p1, p2, p3⟩, -⟩ := id wy
  intro q
  induction q with
  | zero =>
    intro i c f hi hs hc
    have : i = 0 := by omega
    subst this
    have e := (w.1 0 hs).2
    rw [if_pos rfl] at e
    rw [Nat.add_zero, e_Wh_stepsTo_4, ygR (aT_83 s) y2, xB_s, yaIv (i := 0) p1 p2 rfl (by omega) e, if_pos (by omega), dep_0]
    rfl
  | succ q ih =>
    intro i c f hi hs hc
    have e := (w.1 i hs).2
    by_cases i0 : i = 0
    · subst i0
      rw [if_pos rfl] at e
      rw [e_Wh_stepsTo_4, ygR (aT_83 s) y2, xB_s, yaIv (i := 0) p1 p2 rfl (by omega) e, if_pos (by omega), dep_0]
      rfl
    · rw [if_neg i0] at e
      have ds := dep_s b i0 hs
      have pl := (b.2.2.2 i (by omega) hs).1
      rw [show f + (q + 1) + 1 = (f + q + 1) + 1 by omega, e_Wh_stepsTo_4, ygR (aT_83 s) y2, xB_s, yaIv (i := i) p1 p2 rfl (by omega) e, if_neg (by omega), if_pos (by omega), ygR (aT_83 s) y2, xB_s, yaIv (i := i) p1 p2 rfl (by omega) e, wr_id (x := (c : Int) + 1) (by omega) (by omega), show (c : Int) + 1 = ((c + 1 : Nat) : Int) by omega, ih (S.2.2.1 i) (c + 1) f (by omega) (by omega) (by omega), ds, show c + 1 + depB S S.1 (S.2.2.1 i) = c + (1 + depB S S.1 (S.2.2.1 i)) by omega]
theorem t_steps (s : ShT h) (wy : WyS h qc pc sc) (w : HwT I J qc pc sc n S) (b : BOk n S) (hS : S.1 ≤ 5040) {g : Nat} (hg : g < S.1) : rn (d + 1) 97 [iR (some 83), iI (g : Int)] (st h I J) = some (oI (depB S S.1 g : Nat), st h I J) := by
  have dl := dep_le (S := S) S.1 g
  have e := l_steps (d := d) s wy w b hS g g 0 (999998 - g) (Nat.le_refl _) hg (by omega)
  rw [show 999998 - g + g + 1 = 999999 by omega, Nat.zero_add] at e
  rw [r_Wh_stepsTo, e_Wh_stepsTo]
  exact e
theorem l_se35 (s : ShT h) (wy : WyS h qc pc sc) (hn : n ≤ 7) : ∀ (q hd f : Nat) (I J : Nat → Nat → Int) (S : BSt), 5040 ≤ hd + q → hd ≤ S.1 → HwT I J qc pc sc n S → BOk n S → S.2.2.2 0 < 49 → (∀ j, j < 49 → I 84 j = rowF n snd j) → ∃ (I1 J1 : Nat → Nat → Int), WyFr I1 I qc pc ∧ (HwT I1 J1 qc pc sc n (goB n snd q hd S) ∧ BOk n (goB n snd q hd S)) ∧ lp (d + 3) 94 (f + q + 1) 35 [some (iR (some 83)), some (iI (n : Int)), none, some (iI (packA (fun i => i) : Nat)), some (iI (S.1 : Int)), some (iI (hd : Int))] [] (st h I J) = some (oI (if inB (nmB n (goB n snd q hd S)) 0 (goB n snd q hd S).1 = true then (depB (goB n snd q hd S) (goB n snd q hd S).1 (idxB (nmB n (goB n snd q hd S)) 0 (goB n snd q hd S).1) : Int) else -1), st h I1 J1) := by
  have q1 := wy.2.1.2.2
  have p1 := wy.2.2.1.2.2
  have fin : ∀ (hd f : Nat) (I J : Nat → Nat → Int) (S : BSt), ¬ (hd < S.1 ∧ inB (nmB n S) 0 S.1 = false) → HwT I J qc pc sc n S → BOk n S → lp (d + 3) 94 (f + 1) 35 [some (iR (some 83)), some (iI (n : Int)), none, some (iI (packA (fun i => i) : Nat)), some (iI (S.1 : Int)), some (iI (hd : Int))] [] (st h I J) = some (oI (if inB (nmB n S) 0 S.1 = true then (depB S S.1 (idxB (nmB n S) 0 S.1) : Int) else -1), st h I J) := by
    intro hd f I J S hc w b
    have hw := w.2.2.1
    have ble := b.le hn
    rw [e_Wh_search_35]
    cases e : inB (nmB n S) 0 S.1 with
    | false =>
      rw [e, if_neg (show ¬ (false = true) by decide)] at hw
      rw [if_neg (show ¬ (false = true) by decide), if_neg (show ¬ ((hd : Int) < (S.1 : Int)) from fun z => hc ⟨by omega, e⟩), ygIv (aT_83 s) hw, if_pos rfl]
    | true =>
      rw [e, if_pos (show (true = true) from rfl)] at hw
      obtain ⟨g1, -⟩ := idxB_ok S.1 e
      have ts := t_steps (d := d + 2) s wy w b ble g1
      rw [if_pos (show (true = true) from rfl)]
      have tl : (xgI (st h I J) 83 20 1 fun x4 => (if x4 = (-1) then some (oI (-1), st h I J) else xgI (st h I J) 83 20 1 fun x5 => xck (st h I J) 83 20 <| kI (rn (d + 3) 97 [iR (some 83), iI x5] (st h I J)) fun x7 h6 => some (oI x7, h6))) = some (oI (depB S S.1 (idxB (nmB n S) 0 S.1) : Nat), st h I J) := by
        rw [ygIv (aT_83 s) hw, if_neg (by omega), ygIv (aT_83 s) hw, yck (aT_83 s), ts, kI_o]
      by_cases c : hd < S.1
      · rw [if_pos (show (hd : Int) < (S.1 : Int) by omega)]
        by_cases c2 : hd < 5040
        · rw [if_pos (show (hd : Int) < 5040 by omega), ygIv (aT_83 s) hw, if_neg (by omega)]
          exact tl
        · rw [if_neg (show ¬ (hd : Int) < 5040 by omega)]
          exact tl
      · rw [if_neg (show ¬ (hd : Int) < (S.1 : Int) by omega)]
        exact tl
  intro q
  induction q with
  | zero =>
    intro hd f I J S hq hs w b h0 sd
    have := b.le hn
    exact ⟨I, J, WyFr.rf _ _ _, ⟨w, b⟩, fin hd f I J S (by omega) w b⟩
  | succ q ih =>
    intro hd f I J S hq hs w b h0 sd
    have ble := b.le hn
    by_cases hc : hd < S.1 ∧ inB (nmB n S) 0 S.1 = false
    case neg =>
      have eg : goB n snd (q + 1) hd S = S := if_neg hc
      rw [eg]
      exact ⟨I, J, WyFr.rf _ _ _, ⟨w, b⟩, fin hd (f + (q + 1)) I J S hc w b⟩
    have eg : goB n snd (q + 1) hd S = goB n snd q (hd + 1) (allB n snd hd n 0 S) := if_pos hc
    rw [eg]
    have hw := w.2.2.1
    rw [hc.2, if_neg (show ¬ (false = true) by decide)] at hw
    have hE : ∀ i, i < S.1 → S.2.2.2 i < 49 := fun i hi => by
      by_cases z : i = 0
      · rw [z]
        exact h0
      · obtain ⟨-, x, y, e1, e2, e3⟩ := b.2.2.2 i (by omega) hi
        omega
    obtain ⟨I1, J1, a1, ⟨a2, a3⟩, a4⟩ := s_addNext (d := d) (snd := snd) (hd := hd) s wy hn w b hc.1 sd hE
    have al := all_ok (snd := snd) (hd := hd) n 0 S (by omega) b hc.1
    have h0' : (allB n snd hd n 0 S).2.2.2 0 < 49 := by
      rw [all_e n 0 S (by omega) b hc.1]
      exact h0
    obtain ⟨I2, J2, b1, b2, b3⟩ := ih (hd + 1) f I1 J1 _ (by omega) (by omega) a2 a3 h0' (fun j hj => by rw [a1.1 84 (by omega) (by omega) (by omega)]; exact sd j hj)
    refine ⟨I2, J2, b1.tr a1, b2, ?_⟩
    rw [show f + (q + 1) + 1 = (f + q + 1) + 1 by omega, e_Wh_search_35, if_pos (by omega), if_pos (by omega), ygIv (aT_83 s) hw, if_pos rfl, yck (aT_83 s), a4, kI_o, wr_id (x := (hd : Int) + 1) (by omega) (by omega), show (hd : Int) + 1 = ((hd + 1 : Nat) : Int) by omega]
    exact b3
end P98zr
