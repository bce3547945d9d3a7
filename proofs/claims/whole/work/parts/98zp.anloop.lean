/-! A row of exchanges: the class's loop (by program, wip/whole/gen98zp.py) -/
section P98zp
variable {d n qc pc sc : Nat} {I I' J J1 : Nat → Nat → Int} {h : IH} {a b : Nat → Nat} {snd : Nat → Nat → Nat → Bool} {S : BSt}
theorem l_an56 (s : ShT h) (wy : WyS h qc pc sc) (hn : n ≤ 7) {hd x : Nat} (hx : x < n) (pa : PermN n a) (ta : ∀ j, n ≤ j → a j = j) : ∀ (k y f : Nat) (I J : Nat → Nat → Int) (S : BSt), y + k = n → x < y → HwT I J qc pc sc n S → BOk n S → hd < S.1 → S.2.1 hd = a → (∀ j, j < 49 → I 84 j = rowF n snd j) → ∃ (I1 J1 : Nat → Nat → Int) (f' : Nat), f ≤ f' ∧ WyFr I1 I qc pc ∧ (HwT I1 J1 qc pc sc n (rowB n snd hd x k y S) ∧ BOk n (rowB n snd hd x k y S) ∧ hd < (rowB n snd hd x k y S).1 ∧ (rowB n snd hd x k y S).2.1 hd = a) ∧ lp (d + 2) 96 (f + 3 * k + 1) 56 [some (iR (some 83)), some (iI (hd : Int)), none, some (iI (n : Int)), some (iI (packA (fun i => i) : Nat)), some (iI (packA a : Nat)), some (iI ((S.1 : Nat) : Int)), some (iI (x : Int)), some (iI (a x : Nat)), some (iI (mkB (snd (a x) x) n : Nat)), some (iI ((y : Nat) : Int)), none, none, none] [] (st h I J) = lp (d + 2) 96 (f') 17 [some (iR (some 83)), some (iI (hd : Int)), none, some (iI (n : Int)), some (iI (packA (fun i => i) : Nat)), some (iI (packA a : Nat)), some (iI (((rowB n snd hd x k y S).1 : Nat) : Int)), some (iI ((x + 1 : Nat) : Int)), none, none, none, none, none, none] [] (st h I1 J1) := by
  obtain ⟨⟨y1, y2, y3⟩, ⟨q1, q2, q3⟩, ⟨p1, p2, p3⟩, ⟨z1, z2, z3⟩, hqp⟩ := id wy
  have sm := perm_sm hn pa ta
  intro k
  induction k with
  | zero =>
    intro y f I J S hy hxy w b hh ea sd
    refine ⟨I, J, f, Nat.le_refl _, WyFr.rf _ _ _, ⟨w, b, hh, ea⟩, ?_⟩
    rw [show f + 3 * 0 + 1 = f + 1 by omega, e_Wh_addNext_56, if_neg (by omega), wr_id (x := (x : Int) + 1) (by omega) (by omega)]
    rfl
  | succ k ih =>
    intro y f I J S hy hxy w b hh ea sd
    have hyn : y < n := by omega
    have ble := b.le hn
    have w1 : wr ((y : Int) + 1) = ((y + 1 : Nat) : Int) := by rw [wr_id (by omega) (by omega)]; omega
    by_cases full : S.1 = 5040
    · rw [row_full hn (k + 1) y S hy hxy b full]
      refine ⟨I, J, f + 3 * (k + 1), by omega, WyFr.rf _ _ _, ⟨w, b, hh, ea⟩, ?_⟩
      rw [e_Wh_addNext_56, if_pos (by omega), if_neg (by omega), wr_id (x := (x : Int) + 1) (by omega) (by omega)]
      rfl
    have bs := b.step (snd := snd) hh hxy hyn
    have eh := (bs.2.2.2 hd hh).1.trans ea
    have say := pa.1 y hyn
    have sax := pa.1 x hx
    have wi : wr ((wr ((a y : Int) * 7)) + (y : Int)) = ((7 * a y + y : Nat) : Int) := by
      rw [wr_id (x := (a y : Int) * 7) (by omega) (by omega), wr_id (by omega) (by omega)]
      omega
    have er : I 84 (7 * a y + y) = ((mkB (snd (a y) y) n : Nat) : Int) := by
      rw [sd _ (by omega)]
      unfold rowF
      rw [show (7 * a y + y) / 7 = a y by omega, show (7 * a y + y) % 7 = y by omega, if_pos ⟨say, hyn⟩]
    have hbits := both_bits (m1 := mkB (snd (a x) x) n) (m2 := mkB (snd (a y) y) n) (x := x) (y := y) (by omega) (by omega) (mkB_128 _ hn) (mkB_128 _ hn)
    rw [mkB_bit, mkB_bit, show (decide (y < n) && snd (a x) x y && (decide (x < n) && snd (a y) y x)) = exO snd a x y by unfold exO; simp [hyn, hx]] at hbits
    have er' : rowB n snd hd x (k + 1) y S = rowB n snd hd x k (y + 1) (stepB n snd hd x y S) := rfl
    rw [er', show f + 3 * (k + 1) + 1 = (f + 3 * k + 3) + 1 by omega, e_Wh_addNext_56, if_pos (by omega), if_pos (by omega), ygR (aT_83 s) (aR_83_4 s), xB_s, dig_i sm (by omega), wi, yaIv (i := 7 * a y + y) (aT_84 s) (aL_84 s) rfl (by omega) er, hbits]
    by_cases c1 : exO snd a x y = true
    case neg =>
      have es : stepB n snd hd x y S = S := by
        unfold stepB
        rw [ea, if_neg fun z => c1 z.1]
      obtain ⟨I1, J1, f', g1, g2, g3, g4⟩ := ih (y + 1) (f + 1) I J S (by omega) (by omega) w b hh ea sd
      rw [es]
      refine ⟨I1, J1, f', by omega, g2, g3, ?_⟩
      rw [if_neg c1, if_pos (show (0 : Int) = 0 from rfl), show f + 3 * k + 3 = (f + 1 + 3 * k + 1) + 1 by omega, e_Wh_addNext_109, w1]
      exact g4
    have pt : PermN n (swA a x y) := swA_perm pa hx hyn
    have tt : ∀ j, n ≤ j → swA a x y j = j := swA_t hx hyn ta
    have spt := perm_sm hn pt tt
    have lv := pack_lt spt
    obtain ⟨W, w2, w3⟩ := id w.2.1
    have hpk := pk_nm (a := swA a x y) hn b w.2.2.2 pt tt
    have hbit := w3 (packA (swA a x y) % 262144) (by omega)
    rw [hpk, show packA (swA a x y) % 262144 % 64 = packA (swA a x y) % 64 by omega] at hbit
    have hmk : ∃ J1 : Nat → Nat → Int, (∀ W : Nat → Nat, (∀ p, p < 4096 → J sc p = jv (W p)) → ∀ p, p < 4096 → J1 sc p = jv (if p = packA (swA a x y) % 262144 / 64 then W p ||| 2 ^ (packA (swA a x y) % 64) else W p)) ∧ rn (d + 2) 95 [iR (some 83), iI (packA (swA a x y) : Nat)] (st h I J) = some (oI (if inB (nmB n S) (numA n (swA a x y)) S.1 = true then 0 else 1), st h I J1) := by
      obtain ⟨J1, m1, m2⟩ := t_mark (d := d + 1) (I := I) s wy w2 lv
      rw [hbit] at m2
      refine ⟨J1, fun W' hW' p hp => ?_, m2⟩
      rw [m1 p hp]
      have e1 : jv (W p) = jv (W' p) := (w2 p hp).symm.trans (hW' p hp)
      by_cases c : p = packA (swA a x y) % 262144 / 64
      · rw [if_pos c, if_pos c, ← lor_n, ← lor_n, e1]
      · rw [if_neg c, if_neg c, e1]
    obtain ⟨J1, m1, m2⟩ := hmk
    rw [if_pos c1, if_neg (show ¬ (1 : Int) = 0 by decide), next_i sm (by omega) (by omega) (show x ≠ y by omega), yck (aT_83 s), m2, kI_o]
    cases c2 : inB (nmB n S) (numA n (swA a x y)) S.1 with
    | true =>
      have es : stepB n snd hd x y S = S := by
        unfold stepB
        rw [ea, if_neg fun z => by rw [c2] at z; cases z.2]
      obtain ⟨I1, J2, f', g1, g2, g3, g4⟩ := ih (y + 1) (f + 2) I J1 S (by omega) (by omega) (w.same m1 (by rw [hpk]; exact c2)) b hh ea sd
      rw [es]
      refine ⟨I1, J2, f', by omega, g2, g3, ?_⟩
      rw [if_pos (show (true = true) from rfl), if_pos (show (0 : Int) = 0 from rfl), show f + 3 * k + 3 = f + 2 + 3 * k + 1 by omega, w1]
      exact g4
    | false =>
      have es : stepB n snd hd x y S = addB S (swA a x y) hd (7 * x + y) := by
        unfold stepB
        rw [ea, if_pos ⟨c1, c2⟩]
      rw [es] at bs eh ⊢
      obtain ⟨I2, eI2⟩ : ∃ I2, I2 = up (up I qc S.1 ((packA (swA a x y) + 2097152 * (7 * x + y) : Nat) : Int)) pc S.1 (hd : Int) := ⟨_, rfl⟩
      obtain ⟨I3, eI3⟩ : ∃ I3, I3 = up I2 83 1 (if packA (swA a x y) = packA (fun i => i) then (S.1 : Int) else I2 83 1) := ⟨_, rfl⟩
      have f3 : WyFr I3 I qc pc := ⟨fun b b1 b2 b3 => by rw [eI3, up_na b1, eI2, up_na b3, up_na b2], fun i hi => by rw [eI3, up_ni hi, eI2, up_na (by omega), up_na (by omega)]⟩
      have e831 : I2 83 1 = I 83 1 := by rw [eI2, up_na (by omega), up_na (by omega)]
      have w4 : HwT I3 J1 qc pc sc n (addB S (swA a x y) hd (7 * x + y)) := w.add b hn hqp (by omega) (by omega) hh pt tt c2 m1 (fun i => by rw [eI3, up_na (by omega), eI2, up_na hqp, up_at]) (fun i => by rw [eI3, up_na (by omega), eI2, up_at, up_na (Ne.symm hqp)]) (by rw [eI3, up_eq, e831])
      have wt : wr ((S.1 : Int) + 1) = ((S.1 + 1 : Nat) : Int) := by rw [wr_id (by omega) (by omega)]; omega
      have wo : ior (packA (swA a x y) : Int) (ishl (wr ((wr ((x : Int) * 7)) + (y : Int))) 21) = ((packA (swA a x y) + 2097152 * (7 * x + y) : Nat) : Int) := by
        rw [wr_id (x := (x : Int) * 7) (by omega) (by omega), wr_id (x := (x : Int) * 7 + (y : Int)) (by omega) (by omega), show (x : Int) * 7 + (y : Int) = ((7 * x + y : Nat) : Int) by omega]
        have e1 : ishl ((7 * x + y : Nat) : Int) 21 = (((7 * x + y) * 2 ^ 21 : Nat) : Int) := ishl_n (k := 21) (by omega) (by omega)
        rw [e1, ior_n (by omega) (by omega), or_add lv]
      by_cases c3 : packA (swA a x y) = packA (fun i => i)
      · obtain ⟨I1, J2, f', g1, g2, g3, g4⟩ := ih (y + 1) (f + 1) I3 J1 _ (by omega) (by omega) w4 bs.1 (Nat.lt_succ_of_lt hh) eh (fun j hj => by rw [f3.1 84 (by omega) (by omega) (by omega)]; exact sd j hj)
        refine ⟨I1, J2, f', by omega, g2.tr f3, g3, ?_⟩
        rw [if_pos c3] at eI3
        rw [if_neg (show ¬ (false = true) by decide), if_neg (show ¬ (1 : Int) = 0 by decide), show f + 3 * k + 3 = (f + 3 * k + 1 + 1) + 1 by omega, e_Wh_addNext_149, ygR (aT_83 s) y1, xB_s, wo, zSI (i := S.1) q1 (by omega) q2 rfl (by omega), ygR (aT_83 s) y2, xB_s, zSI (i := S.1) p1 (by omega) p2 rfl (by omega), ← eI2]
        rw [if_pos (by rw [c3]), ypI (aT_83 s) (by omega), ← eI3, wt, w1, show f + 3 * k + 1 + 1 = f + 1 + 3 * k + 1 by omega]
        exact g4
      · obtain ⟨I1, J2, f', g1, g2, g3, g4⟩ := ih (y + 1) f I3 J1 _ (by omega) (by omega) w4 bs.1 (Nat.lt_succ_of_lt hh) eh (fun j hj => by rw [f3.1 84 (by omega) (by omega) (by omega)]; exact sd j hj)
        refine ⟨I1, J2, f', g1, g2.tr f3, g3, ?_⟩
        rw [if_neg c3] at eI3
        rw [if_neg (show ¬ (false = true) by decide), if_neg (show ¬ (1 : Int) = 0 by decide), show f + 3 * k + 3 = (f + 3 * k + 1 + 1) + 1 by omega, e_Wh_addNext_149, ygR (aT_83 s) y1, xB_s, wo, zSI (i := S.1) q1 (by omega) q2 rfl (by omega), ygR (aT_83 s) y2, xB_s, zSI (i := S.1) p1 (by omega) p2 rfl (by omega), ← eI2]
        rw [if_neg (by omega), e_Wh_addNext_191, ygI (aT_83 s), ypI (aT_83 s) (by omega), ← eI3, wt, w1]
        exact g4
end P98zp
