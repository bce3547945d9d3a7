/-! The class runs an ORDER, a whole text (by program, wip/whole/gen98za.py) -/
section P98za
variable {d n nt cc ci : Nat} {h : IH} {I I' I2 J A : Nat → Nat → Int} {K K' : Nat → Int} {L : LwV} {LW : Nat → Nat × (Nat → Cls)} {a b x dn lt kind : Int} {D : Int} {S S' : OSt} {cl : Cls} {CL : Nat → Cls} {kp : Nat} {H : Nat → Nat → Int} {ws : Nat → Int}
theorem t_rk (s : ShT h) (tx : TxT h I cc CL) (hci : ci < cc) (hcc : cc ≤ 12) {q : Nat} (hq : q < 4) (hw : ∀ j, j < 18 → I 69 j = ws j) (hb : ∀ j, j < 18 → bdd (ws j)) : ∃ I1, (∀ b, b ≠ 71 → I1 b = I b) ∧ rn (d + 5) 73 [iR (some 70), iR (some 44), iI ((4 * ci + q : Nat) : Int), iR (some 69)] (st h I J) = some (oI (valP (CL ci).2.2 q ws), st h I1 J) := by
  obtain ⟨I1, a1, a2⟩ := s_place (d := d + 3) (J := J) (p := 4 * ci + q) (r := 70) (wd := 69) (nw := 18) tx.1 (by omega) ((s.2.2.2.2.2.2.2.2.2.2.2.1).2.2.2.2.2.2.2.2) (aT_69 s) (aL_69 s) (by omega) (by omega) (by omega) (fun k hk => by
    rw [hw k hk]
    have := hb k hk
    unfold bdd at this
    unfold inr
    omega)
  refine ⟨I1, a1, ?_⟩
  rw [plV_ws (ws' := ws) (by omega) hw, (tx.2 ci hci).2 q hq ws (fun k hk => bdd_nb (hb k hk))] at a2
  exact a2
theorem okA_3 (hc : OrC cl) : okA cl.2.2 1 ws 0 (nrK cl.1) ↔ valP cl.2.2 0 ws ≠ BRK ∧ valP cl.2.2 1 ws ≠ BRK ∧ valP cl.2.2 2 ws ≠ BRK := by
  have hk3 : nrK cl.1 ≤ 3 := by
    unfold nrK
    (repeat' split) <;> omega
  have key : okA cl.2.2 1 ws 0 (nrK cl.1) ↔ ∀ i, i < 3 → valP cl.2.2 i ws ≠ BRK := by
    constructor
    · intro z i hi
      by_cases q : i < nrK cl.1
      · intro y
        exact z i (by omega) (by omega) ⟨rfl, y⟩
      · have : valP cl.2.2 i ws = 1 := by
          unfold valP
          rw [hc.2.2 i (by omega) hi]
        rw [this]
        decide
    · intro z i i1 i2 y
      exact z i (by omega) y.2
  rw [key]
  constructor
  · intro z
    exact ⟨z 0 (by omega), z 1 (by omega), z 2 (by omega)⟩
  · intro z i hi
    rcases (show i = 0 ∨ i = 1 ∨ i = 2 by omega) with rfl | rfl | rfl
    · exact z.1
    · exact z.2.1
    · exact z.2.2
theorem t_once (s : ShT h) (tx : TxT h I cc CL) (hci : ci < cc) (hcc : cc ≤ 12) (hc : OrC (CL ci)) (to : TO h I LW nt S) (so : StO LW L nt D S) (hD : D ≤ 90000) (hw : ∀ j x, hR h 15 j = some x → 118 ≤ x) (e1 : I 1 = z0M) : (oneS L nt (CL ci) S = none → ∃ I1 K', OnFr I1 I ∧ RL h I1 4 K' LW ∧ rn (d + 6) 77 [iR (some 62), iR (some 44), iI (ci : Int), iR (some 4), iR (some 72)] (st h I J) = some (oI 0, st h I1 J)) ∧ ∀ S', oneS L nt (CL ci) S = some S' → ∃ I1, OnFr I1 I ∧ TO h I1 LW nt S' ∧ rn (d + 6) 77 [iR (some 62), iR (some 44), iI (ci : Int), iR (some 4), iR (some 72)] (st h I J) = some (oI 1, st h I1 J) := by
  obtain ⟨r, ⟨t0, t1⟩, tp⟩ := to
  obtain ⟨⟨kk, hA, hL, en⟩, sd, sl, sk⟩ := so
  have k1 := kk.1
  have k185 := kk.2.2.2.2.2.1.2
  obtain ⟨⟨m1, m2⟩, m3⟩ : (((CL ci).1 = 0 ∨ (CL ci).1 = 1 ∨ (CL ci).1 = 2 ∨ (CL ci).1 = 3) ∧ True) ∧ True := ⟨⟨hc.1, trivial⟩, trivial⟩
  obtain ⟨ws, ews⟩ : ∃ ws, ws = wdS S.1 S.2.1 S.2.2.1 := ⟨_, rfl⟩
  have hb : ∀ j, j < 18 → bdd (ws j) := by rw [ews]; exact wdS_bd kk (by omega) sl
  have o : AnyOk h I 4 S.1 LW := ⟨s, ShT_4 s, r, kk, hA, fun j x _ hx => hw j x hx⟩
  obtain ⟨I1, a1, a2, a3⟩ := t_words (d := d + 3) (J := J) s r kk t0 t1
  rw [← ews] at a2
  have tx1 := tx.fr (I' := I1) fun b q1 q2 => a1 b (by omega)
  have f1 : OnFr I1 I := fun b q1 q2 => a1 b (by omega)
  obtain ⟨I2, b1, b2⟩ := t_rk (d := d) (J := J) s tx1 hci hcc (q := 3) (by omega) a2 hb
  have f2 : OnFr I2 I := fun b q1 q2 => by rw [b1 b (by omega)]; exact f1 b q1 q2
  have w4 : wr ((ci : Int) * 4) = ((4 * ci + 0 : Nat) : Int) := by rw [wr_id (by omega) (by omega)]; omega
  have w43 : wr (((4 * ci + 0 : Nat) : Int) + 3) = ((4 * ci + 3 : Nat) : Int) := by rw [wr_id (by omega) (by omega)]; omega
  have w41 : wr (((4 * ci + 0 : Nat) : Int) + 1) = ((4 * ci + 1 : Nat) : Int) := by rw [wr_id (by omega) (by omega)]; omega
  have w42 : wr (((4 * ci + 0 : Nat) : Int) + 2) = ((4 * ci + 2 : Nat) : Int) := by rw [wr_id (by omega) (by omega)]; omega
  have hone : oneS L nt (CL ci) S = if valP (CL ci).2.2 3 ws = 1 then @ite _ (okA (CL ci).2.2 1 ws 0 (nrK (CL ci).1)) (Classical.propDecidable _) (if 0 ≤ mvV (CL ci).1 S.1 L (valP (CL ci).2.2 0 ws) (valP (CL ci).2.2 1 ws) (valP (CL ci).2.2 2 ws) then some (mvF (CL ci).1 S.1 L nt (valP (CL ci).2.2 0 ws) (valP (CL ci).2.2 1 ws) (valP (CL ci).2.2 2 ws), S.2.1 + 1, (if (CL ci).1 = 3 then mvV (CL ci).1 S.1 L (valP (CL ci).2.2 0 ws) (valP (CL ci).2.2 1 ws) (valP (CL ci).2.2 2 ws) else S.2.2.1), pushN S.2.2.2.1, pushH S.2.2.2.1 S.2.2.2.2 S.1 (CL ci).1) else none) none else some S := by
    rw [ews]
    rfl
  rw [hone, r_Rn_runOnce, e_Rn_runOnce, yck (aT_62 s), a3, kV_o, ygR (aT_62 s) (aR_62_4 s), ygR (aT_62 s) (aR_62_3 s), xB_s, yck (aT_70 s), w4, w43, b2, kI_o]
  have r2 : RL h I2 4 S.1 LW := o.fr r k185 fun b hb2 => by rw [b1 b (by omega), a1 b (by omega)]
  have tp2 : TP nt I2 S.2.2.2.1 S.2.2.2.2 := tp.fr (by rw [b1 72 (by omega), a1 72 (by omega)]) (by rw [b1 73 (by omega), a1 73 (by omega)])
  by_cases c1 : valP (CL ci).2.2 3 ws = 1
  case neg =>
    rw [if_neg c1, if_neg c1, xZ_1]
    refine ⟨fun z => (by cases z), fun S' z => ?_⟩
    cases z
    exact ⟨I2, f2, ⟨r2, ⟨by rw [b1 62 (by omega), a1 62 (by omega)]; exact t0, by rw [b1 62 (by omega), a1 62 (by omega)]; exact t1⟩, tp2⟩, rfl⟩
  rw [if_pos c1, if_pos c1]
  have tx2 := tx1.fr (I' := I2) fun b q1 q2 => b1 b (by omega)
  obtain ⟨I3, g1, g2⟩ := t_rk (d := d) (J := J) (ws := ws) s tx2 hci hcc (q := 0) (by omega) (fun j hj => by rw [b1 69 (by omega)]; exact a2 j hj) hb
  have tx3 := tx2.fr (I' := I3) fun b q1 q2 => g1 b (by omega)
  obtain ⟨I4, h1, h2⟩ := t_rk (d := d) (J := J) (ws := ws) s tx3 hci hcc (q := 1) (by omega) (fun j hj => by rw [g1 69 (by omega), b1 69 (by omega)]; exact a2 j hj) hb
  have tx4 := tx3.fr (I' := I4) fun b q1 q2 => h1 b (by omega)
  obtain ⟨I5, i1, i2⟩ := t_rk (d := d) (J := J) (ws := ws) s tx4 hci hcc (q := 2) (by omega) (fun j hj => by rw [h1 69 (by omega), g1 69 (by omega), b1 69 (by omega)]; exact a2 j hj) hb
  have tx5 := tx4.fr (I' := I5) fun b q1 q2 => i1 b (by omega)
  have e5 : ∀ b, b ≠ 71 → b ≠ 69 → I5 b = I b := fun b q1 q2 => by rw [i1 b q1, h1 b q1, g1 b q1, b1 b q1, a1 b q2]
  rw [ygR (aT_62 s) (aR_62_4 s), ygR (aT_62 s) (aR_62_3 s), xB_s, yck (aT_70 s), g2, kI_o, e_Rn_runOnce_48, ygR (aT_62 s) (aR_62_4 s), ygR (aT_62 s) (aR_62_3 s), xB_s, yck (aT_70 s), w41, h2, kI_o, ygR (aT_62 s) (aR_62_4 s), ygR (aT_62 s) (aR_62_3 s), xB_s, yck (aT_70 s), w42, i2, kI_o]
  have r5 : RL h I5 4 S.1 LW := o.fr r k185 fun b hb2 => e5 b (by omega) (by omega)
  have f5 : OnFr I5 I := fun b q1 q2 => e5 b (by omega) (by omega)
  have ok3 := okA_3 (ws := ws) hc
  generalize hva : valP (CL ci).2.2 0 ws = va at *
  generalize hvb : valP (CL ci).2.2 1 ws = vb at *
  generalize hvc : valP (CL ci).2.2 2 ws = vc at *
  by_cases c2 : va = BRK
  · rw [if_neg (show ¬ okA (CL ci).2.2 1 ws 0 (nrK (CL ci).1) from fun z => (ok3.1 z).1 c2), if_pos (show va = (-2147483648) from c2), xZ_0]
    exact ⟨fun _ => ⟨I5, S.1, f5, r5, rfl⟩, fun S' z => by cases z⟩
  rw [if_neg (show ¬ va = (-2147483648) from c2)]
  by_cases c3 : vb = BRK
  · rw [if_neg (show ¬ okA (CL ci).2.2 1 ws 0 (nrK (CL ci).1) from fun z => (ok3.1 z).2.1 c3), if_pos (show vb = (-2147483648) from c3), xZ_0]
    exact ⟨fun _ => ⟨I5, S.1, f5, r5, rfl⟩, fun S' z => by cases z⟩
  rw [if_neg (show ¬ vb = (-2147483648) from c3), e_Rn_runOnce_98]
  by_cases c4 : vc = BRK
  · rw [if_neg (show ¬ okA (CL ci).2.2 1 ws 0 (nrK (CL ci).1) from fun z => (ok3.1 z).2.2 c4), if_pos (show vc = (-2147483648) from c4), xZ_0]
    exact ⟨fun _ => ⟨I5, S.1, f5, r5, rfl⟩, fun S' z => by cases z⟩
  have cx := ok3.2 ⟨c2, c3, c4⟩
  rw [if_neg (show ¬ vc = (-2147483648) from c4), if_pos cx]
  have tp5 : TP nt I5 S.2.2.2.1 S.2.2.2.2 := tp.fr (e5 72 (by omega) (by omega)) (e5 73 (by omega) (by omega))
  obtain ⟨tq0, tq1, nx, tq2, tq3, -⟩ := id tp5
  -- prepared
  obtain ⟨I6, eI6⟩ : ∃ I6, I6 = ppI I5 (CL ci).1 := ⟨_, rfl⟩
  have hprep := s_prepare (d := d + 4) (h := h) (I := I5) (J := J) (p := 72) (a := 4) (ShT_4 s) (ShT_72 s) (by omega) (by rw [tq3]; omega) (CL ci).1
  rw [show prepI I5 72 4 (I5 72 1 * 72) (CL ci).1 = I6 from eI6.symm] at hprep
  have e6 : ∀ b, b ≠ 73 → I6 b = I5 b := fun b hb2 => by rw [eI6, ppI_o hb2]
  have r6 : RL h I6 4 S.1 LW := o.fr r5 k185 fun b hb2 => e6 b (by omega)
  have o6 : AnyOk h I6 4 S.1 LW := ⟨s, ShT_4 s, r6, kk, hA, fun j x _ hx => hw j x hx⟩
  have no6 : NowOk h I6 S.1 LW := ⟨s, r6, kk, hA, hw⟩
  have tail : ∀ (I7 : Nat → Nat → Int) (v : Int) (f : Nat), v = mvV (CL ci).1 S.1 L va vb vc → (∀ b, (b < 4 ∨ 15 < b) → (b < 64 ∨ 68 < b) → I7 b = I6 b) → RL h I7 4 (if 0 ≤ mvV (CL ci).1 S.1 L va vb vc then mvF (CL ci).1 S.1 L nt va vb vc else S.1) LW → ((if 0 ≤ mvV (CL ci).1 S.1 L va vb vc then some ((mvF (CL ci).1 S.1 L nt va vb vc, S.2.1 + 1, (if (CL ci).1 = 3 then mvV (CL ci).1 S.1 L va vb vc else S.2.2.1), pushN S.2.2.2.1, pushH S.2.2.2.1 S.2.2.2.2 S.1 (CL ci).1) : OSt) else none) = none → ∃ I1 K', OnFr I1 I ∧ RL h I1 4 K' LW ∧ lp (d + 5) 77 (f + 1) 195 [some (iR (some 62)), none, none, none, some (iR (some 72)), none, none, none, none, some (iI (CL ci).1), none] [iI v] (st h I7 J) = some (oI 0, st h I1 J)) ∧ ∀ S', (if 0 ≤ mvV (CL ci).1 S.1 L va vb vc then some ((mvF (CL ci).1 S.1 L nt va vb vc, S.2.1 + 1, (if (CL ci).1 = 3 then mvV (CL ci).1 S.1 L va vb vc else S.2.2.1), pushN S.2.2.2.1, pushH S.2.2.2.1 S.2.2.2.2 S.1 (CL ci).1) : OSt) else none) = some S' → ∃ I1, OnFr I1 I ∧ TO h I1 LW nt S' ∧ lp (d + 5) 77 (f + 1) 195 [some (iR (some 62)), none, none, none, some (iR (some 72)), none, none, none, none, some (iI (CL ci).1), none] [iI v] (st h I7 J) = some (oI 1, st h I1 J) := by
    intro I7 v f ev c7 r7
    have f7 : OnFr I7 I := fun b q1 q2 => by rw [c7 b q1 (by omega), e6 b (by omega)]; exact f5 b q1 q2
    rw [e_Rn_runOnce_195]
    by_cases cv : 0 ≤ mvV (CL ci).1 S.1 L va vb vc
    case neg =>
      rw [if_neg cv] at r7 ⊢
      rw [if_pos (show v < 0 by omega), xZ_0]
      exact ⟨fun _ => ⟨I7, S.1, f7, r7, rfl⟩, fun S' z => by cases z⟩
    rw [if_pos cv] at r7 ⊢
    rw [if_neg (show ¬ v < 0 by omega)]
    have mk := mvF_ok (nt := nt) (L := L) (LW := LW) ⟨kk, hA, hL, en⟩ hc.1 cv
    refine ⟨fun z => (by cases z), fun S' z => ?_⟩
    cases z
    have x720 : I7 72 0 = (S.2.2.2.1 : Int) := by rw [c7 72 (by omega) (by omega), e6 72 (by omega)]; exact tq1
    have x721 : I7 72 1 = (nx : Int) := by rw [c7 72 (by omega) (by omega), e6 72 (by omega)]; exact tq3
    have x62 : I7 62 = I 62 := by rw [c7 62 (by omega) (by omega), e6 62 (by omega), e5 62 (by omega) (by omega)]
    have hkeep := s_keepPrepared (d := d + 4) (h := h) (I := I7) (J := J) (p := 72) (ShT_72 s) (by rw [x721]; omega) (by rw [x720]; omega)
    obtain ⟨I8, eI8⟩ : ∃ I8, I8 = up (up I7 72 1 ((I7 72 1 + 1) % 17)) 72 0 (if I7 72 0 < 16 then I7 72 0 + 1 else 16) := ⟨_, rfl⟩
    rw [← eI8] at hkeep
    have e8 : ∀ b, b ≠ 72 → I8 b = I7 b := fun b hb2 => by rw [eI8, up_na hb2, up_na hb2]
    have x620 : I8 62 0 = S.2.1 := by rw [e8 62 (by omega), x62]; exact t0
    have x621 : I8 62 1 = S.2.2.1 := by rw [e8 62 (by omega), x62]; exact t1
    have r8 : ∀ I9 : Nat → Nat → Int, (∀ b, b ≠ 62 → I9 b = I8 b) → OnFr I9 I ∧ RL h I9 4 (mvF (CL ci).1 S.1 L nt va vb vc) LW ∧ TP nt I9 (pushN S.2.2.2.1) (pushH S.2.2.2.1 S.2.2.2.2 S.1 (CL ci).1) := fun I9 c9 => by
      refine ⟨fun b q1 q2 => by rw [c9 b (by omega), e8 b (by omega)]; exact f7 b q1 q2, o.fr r7 (by have := mk.1.1.2.2.2.2.2.1; omega) (fun b hb2 => by rw [c9 b (by omega), e8 b (by omega)]), ?_⟩
      have tp5' : TP (S.1 183) I5 S.2.2.2.1 S.2.2.2.2 := by rw [en]; exact tp5
      have := tp5'.push (I2 := I9) (kind := (CL ci).1) r5 kk (by omega) (by rw [c9 73 (by omega), e8 73 (by omega), c7 73 (by omega) (by omega), eI6]) (by rw [c9 72 (by omega), eI8, up_eq, x720, tq1]) (by rw [c9 72 (by omega), eI8, up_ni (by omega), up_eq, x721, tq3])
      rw [en] at this
      exact this
    rw [xB_s, yck (aT_72 s), hkeep, kV_o, ygIv (aT_62 s) x620, ypI (aT_62 s) (by omega), wr_id (x := S.2.1 + 1) (by omega) (by omega)]
    by_cases c5 : (CL ci).1 = 3
    · obtain ⟨q1, q2, q3⟩ := r8 (up (up I8 62 0 (S.2.1 + 1)) 62 1 v) (fun b hb2 => by rw [up_na hb2, up_na hb2])
      refine ⟨_, q1, ⟨q2, ⟨by rw [up_ni (by omega)]; exact up_eq _ _ _ _, ?_⟩, q3⟩, ?_⟩
      · rw [up_eq]
        show v = (if (CL ci).1 = 3 then _ else _)
        rw [if_pos c5]
        exact ev
      · rw [if_pos c5, ypI (aT_62 s) (by omega), xZ_1]
    · obtain ⟨q1, q2, q3⟩ := r8 (up I8 62 0 (S.2.1 + 1)) (fun b hb2 => by rw [up_na hb2])
      refine ⟨_, q1, ⟨q2, ⟨up_eq _ _ _ _, ?_⟩, q3⟩, ?_⟩
      · rw [up_ni (by omega), x621]
        show S.2.2.1 = (if (CL ci).1 = 3 then _ else _)
        rw [if_neg c5]
      · rw [if_neg c5, xZ_1]
  have x47 : I5 47 ci = (CL ci).1 := (tx5.2 ci hci).1.1
  rw [xB_s, ygR (aT_44 s) (aR_44_2 s), xB_s, yaIv (i := ci) (aT_47 s) (aL_47 s) rfl (by omega) x47, xB_s, yck (aT_72 s), hprep, kV_o]
  rcases m1 with m1 | m1 | m1 | m1 <;> rw [m1] at tail ⊢
  · obtain ⟨I7, z1, z2, z3⟩ := u_swap (d := d) (J := J) (v := 63) o6 ((s.2.2.2.2.2.2.2.2.2.2.2.1).2.2.2.2.2.2.2.1) (by omega) va vb
    rw [hL] at z2 z3
    rw [if_pos (show (0 : Int) = 0 from rfl), ygR (aT_62 s) (aR_62_2 s), xB_s, yck (aT_63 s), z3, kI_o]
    exact tail I7 _ _ rfl (fun b q1 q2 => z1 b (by omega) (by omega)) z2
  · obtain ⟨I7, z1, z2, z3⟩ := u_round (d := d) (J := J) (v := 63) o6 ((s.2.2.2.2.2.2.2.2.2.2.2.1).2.2.2.2.2.2.2.1) (by omega) va vb vc
    rw [hL] at z2 z3
    rw [if_neg (show ¬ (1 : Int) = 0 by decide), if_pos (show (1 : Int) = 1 from rfl), e_Rn_runOnce_149, ygR (aT_62 s) (aR_62_2 s), xB_s, yck (aT_63 s), z3, kI_o]
    exact tail I7 _ _ rfl (fun b q1 q2 => z1 b (by omega) (by omega)) z2
  · obtain ⟨I7, z1, z2, z3⟩ := t_close (d := d + 3) (J := J) (v := 63) no6 va vb
    rw [if_neg (show ¬ (2 : Int) = 0 by decide), if_neg (show ¬ (2 : Int) = 1 by decide), if_pos (show (2 : Int) = 2 from rfl), ygR (aT_62 s) (aR_62_2 s), xB_s, yck (aT_63 s), z3, kI_o]
    refine tail I7 _ _ rfl (fun b q1 q2 => ?_) ?_
    · by_cases y : 0 ≤ closeV S.1 va vb
      · exact (z2 y).1 b (by omega)
      · rw [z1 (by omega)]
    · show RL h I7 4 (if 0 ≤ closeV S.1 va vb then closeF S.1 va vb else S.1) LW
      by_cases y : 0 ≤ closeV S.1 va vb
      · rw [if_pos y]
        exact (z2 y).2
      · rw [if_neg y, z1 (by omega)]
        exact r6
  · have hps : rn (d + 5) 24 [iR (some 63), iR (some 4)] (st h I6 J) = some (oI 0, st h I6 J) ∨ True := Or.inr trivial
    obtain ⟨I7, z1, z2, z3⟩ := t_pass (d := d) (J := J) (v := 63) no6 ((s.2.2.2.2.2.2.2.2.2.2.2.1).2.2.2.2.2.2.2.1) (by omega) (by rw [e6 1 (by omega), e5 1 (by omega) (by omega)]; exact e1)
    rw [hL] at z1 z2 z3
    rw [if_neg (show ¬ (3 : Int) = 0 by decide), if_neg (show ¬ (3 : Int) = 1 by decide), if_neg (show ¬ (3 : Int) = 2 by decide), ygR (aT_62 s) (aR_62_2 s), xB_s, yck (aT_63 s), z3, kI_o]
    refine tail I7 _ _ rfl (fun b q1 q2 => ?_) ?_
    · by_cases y : 0 ≤ passV S.1 L
      · exact (z2 y).1 b (by omega) (by omega)
      · exact z1 (by omega) b (by omega)
    · show RL h I7 4 (if 0 ≤ passV S.1 L then passK S.1 L nt else S.1) LW
      by_cases y : 0 ≤ passV S.1 L
      · rw [if_pos y, show nt = (S.1 183).toNat by omega]
        exact (z2 y).2.1
      · rw [if_neg y]
        exact o6.fr r6 k185 fun b hb2 => z1 (by omega) b (by omega)
end P98za
