/-! All exchanges from one arrangement: the class (by program, wip/whole/gen98zq.py) -/
section P98zq
variable {d n qc pc sc : Nat} {I I' J J1 : Nat → Nat → Int} {h : IH} {a b : Nat → Nat} {snd : Nat → Nat → Nat → Bool} {S : BSt}
theorem l_an17 (s : ShT h) (wy : WyS h qc pc sc) (hn : n ≤ 7) {hd : Nat} (pa : PermN n a) (ta : ∀ j, n ≤ j → a j = j) : ∀ (k x f : Nat) (I J : Nat → Nat → Int) (S : BSt), x + k = n → HwT I J qc pc sc n S → BOk n S → hd < S.1 → S.2.1 hd = a → (∀ j, j < 49 → I 84 j = rowF n snd j) → ∃ (I1 J1 : Nat → Nat → Int), WyFr I1 I qc pc ∧ (HwT I1 J1 qc pc sc n (allB n snd hd k x S) ∧ BOk n (allB n snd hd k x S)) ∧ lp (d + 2) 96 (f + 30 * k + 1) 17 [some (iR (some 83)), some (iI (hd : Int)), none, some (iI (n : Int)), some (iI (packA (fun i => i) : Nat)), some (iI (packA a : Nat)), some (iI ((S.1 : Nat) : Int)), some (iI ((x : Nat) : Int)), none, none, none, none, none, none] [] (st h I J) = some (oI ((allB n snd hd k x S).1 : Int), st h I1 J1) := by
  have q1 := wy.2.1.2.2
  have p1 := wy.2.2.1.2.2
  have sm := perm_sm hn pa ta
  intro k
  induction k with
  | zero =>
    intro x f I J S hx w b hh ea sd
    refine ⟨I, J, WyFr.rf _ _ _, ⟨w, b⟩, ?_⟩
    rw [show f + 30 * 0 + 1 = f + 1 by omega, e_Wh_addNext_17, if_neg (by omega)]
    rfl
  | succ k ih =>
    intro x f I J S hx w b hh ea sd
    have hxn : x < n := by omega
    have sax := pa.1 x hxn
    have wi : wr ((wr ((a x : Int) * 7)) + (x : Int)) = ((7 * a x + x : Nat) : Int) := by
      rw [wr_id (x := (a x : Int) * 7) (by omega) (by omega), wr_id (by omega) (by omega)]
      omega
    have er : I 84 (7 * a x + x) = ((mkB (snd (a x) x) n : Nat) : Int) := by
      rw [sd _ (by omega)]
      unfold rowF
      rw [show (7 * a x + x) / 7 = a x by omega, show (7 * a x + x) % 7 = x by omega, if_pos ⟨sax, hxn⟩]
    obtain ⟨I1, J1, f', g1, g2, ⟨g3, g4, g5, g6⟩, g7⟩ := l_an56 (d := d) (snd := snd) (hd := hd) s wy hn hxn pa ta (n - (x + 1)) (x + 1) (f + 30 * k + 29 - 3 * (n - (x + 1))) I J S (by omega) (by omega) w b hh ea sd
    rw [show f + 30 * k + 29 - 3 * (n - (x + 1)) + 3 * (n - (x + 1)) + 1 = f + 30 * (k + 1) by omega] at g7
    obtain ⟨I2, J2, b1, b2, b3⟩ := ih (x + 1) (f' - (30 * k + 1)) I1 J1 _ (by omega) g3 g4 g5 g6 (fun j hj => by rw [g2.1 84 (by omega) (by omega) (by omega)]; exact sd j hj)
    rw [show f' - (30 * k + 1) + 30 * k + 1 = f' by omega] at b3
    refine ⟨I2, J2, b1.tr g2, b2, ?_⟩
    rw [e_Wh_addNext_17, if_pos (by omega), ygR (aT_83 s) (aR_83_4 s), xB_s, dig_i sm (by omega), wi, yaIv (i := 7 * a x + x) (aT_84 s) (aL_84 s) rfl (by omega) er, wr_id (x := (x : Int) + 1) (by omega) (by omega), show (x : Int) + 1 = ((x + 1 : Nat) : Int) by omega]
    exact g7.trans b3
theorem s_addNext (s : ShT h) (wy : WyS h qc pc sc) (hn : n ≤ 7) {hd : Nat} (w : HwT I J qc pc sc n S) (b : BOk n S) (hh : hd < S.1) (sd : ∀ j, j < 49 → I 84 j = rowF n snd j) (hE : ∀ i, i < S.1 → S.2.2.2 i < 49) : ∃ (I1 J1 : Nat → Nat → Int), WyFr I1 I qc pc ∧ (HwT I1 J1 qc pc sc n (allB n snd hd n 0 S) ∧ BOk n (allB n snd hd n 0 S)) ∧ rn (d + 3) 96 [iR (some 83), iI (hd : Int), iI (S.1 : Int), iI (n : Int), iI (packA (fun i => i) : Nat)] (st h I J) = some (oI ((allB n snd hd n 0 S).1 : Int), st h I1 J1) := by
  obtain ⟨⟨y1, y2, y3⟩, ⟨q1, q2, q3⟩, -⟩ := id wy
  have pa := b.2.1 hd hh
  have ta := w.2.2.2 hd hh
  have l := pack_lt (perm_sm hn pa ta)
  have ble := b.le hn
  have he := hE hd hh
  obtain ⟨I1, J1, a1, a2, a3⟩ := l_an17 (d := d) (snd := snd) (hd := hd) s wy hn pa ta n 0 (999998 - 30 * n) I J S (by omega) w b hh rfl sd
  rw [show 999998 - 30 * n + 30 * n + 1 = 999999 by omega] at a3
  have em : iand ((packA (S.2.1 hd) + 2097152 * S.2.2.2 hd : Nat) : Int) 2097151 = (packA (S.2.1 hd) : Int) := by
    have e := iand_n (a := packA (S.2.1 hd) + 2097152 * S.2.2.2 hd) (b := 2097151) (by omega)
    rw [and_21, show (packA (S.2.1 hd) + 2097152 * S.2.2.2 hd) % 2097152 = packA (S.2.1 hd) by omega] at e
    exact e
  refine ⟨I1, J1, a1, a2, ?_⟩
  rw [r_Wh_addNext, e_Wh_addNext, ygR (aT_83 s) y1, xB_s, yaIv (i := hd) q1 q2 rfl (by omega) (w.1 hd hh).1, em]
  exact a3
end P98zq
