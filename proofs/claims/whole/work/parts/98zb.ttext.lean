/-! The class runs a whole text of ORDERS (by program, wip/whole/gen98zb.py) -/
section P98zb
variable {d n nt cc ci : Nat} {h : IH} {I I' I2 J A : Nat → Nat → Int} {K K' : Nat → Int} {L : LwV} {LW : Nat → Nat × (Nat → Cls)} {a b x dn lt kind : Int} {D : Int} {S S' : OSt} {cl : Cls} {CL : Nat → Cls} {kp : Nat} {H : Nat → Nat → Int} {ws : Nat → Int}
theorem t_times (s : ShT h) (hci : ci < cc) (hcc : cc ≤ 12) (hc : OrC (CL ci)) (hw : ∀ j x, hR h 15 j = some x → 118 ≤ x) : ∀ (q i f : Nat) (I : Nat → Nat → Int) (S : OSt) (D : Int), ((i + q : Nat) : Int) = (CL ci).2.1 → TxT h I cc CL → TO h I LW nt S → StO LW L nt D S → D + q ≤ 90000 → I 1 = z0M → (timesS L nt (CL ci) q S = none → ∃ I1 K', OnFr I1 I ∧ RL h I1 4 K' LW ∧ lp (d + 6) 76 (f + q + 1) 25 [some (iR (some 62)), some (iR (some 44)), some (iR (some 4)), some (iR (some 72)), some (iI (ci : Int)), some (iI (i : Int))] [] (st h I J) = some (oI (ci : Int), st h I1 J)) ∧ ∀ S', timesS L nt (CL ci) q S = some S' → ∃ I1, OnFr I1 I ∧ TO h I1 LW nt S' ∧ lp (d + 6) 76 (f + q + 1) 25 [some (iR (some 62)), some (iR (some 44)), some (iR (some 4)), some (iR (some 72)), some (iI (ci : Int)), some (iI (i : Int))] [] (st h I J) = lp (d + 6) 76 f 13 [some (iR (some 62)), some (iR (some 44)), some (iR (some 4)), some (iR (some 72)), some (iI ((ci + 1 : Nat) : Int)), none] [] (st h I1 J) := by
  intro q
  have tm := hc.2.1
  induction q with
  | zero =>
    intro i f I S D hi tx to so hD e1
    refine ⟨fun z => ?_, fun S' e => ?_⟩
    · have z' : some S = none := z
      cases z'
    · have e' : some S = some S' := e
      cases e'
      refine ⟨I, OnFr.rf I, to, ?_⟩
      rw [Nat.add_zero, e_Rn_runAll_25, xB_s, ygR (aT_44 s) (aR_44_3 s), xB_s, yaIv (i := ci) (aT_48 s) (aL_48 s) rfl (by omega) (tx.2 ci hci).1.2, if_neg (by omega), wr_id (x := (ci : Int) + 1) (by omega) (by omega)]
      rfl
  | succ q ih =>
    intro i f I S D hi tx to so hD e1
    obtain ⟨o1, o2⟩ := t_once (d := d) (J := J) s tx hci hcc hc to so (by omega) hw e1
    rw [show f + (q + 1) + 1 = (f + q + 1) + 1 by omega, e_Rn_runAll_25, xB_s, ygR (aT_44 s) (aR_44_3 s), xB_s, yaIv (i := ci) (aT_48 s) (aL_48 s) rfl (by omega) (tx.2 ci hci).1.2, if_pos (by omega), yck (aT_62 s)]
    unfold timesS
    cases e2 : oneS L nt (CL ci) S with
    | none =>
      obtain ⟨I1, K', z1, z2, z3⟩ := o1 e2
      rw [z3, kI_o, if_pos (show (0 : Int) = 0 from rfl)]
      exact ⟨fun _ => ⟨I1, K', z1, z2, rfl⟩, fun S' z => by cases z⟩
    | some S1 =>
      obtain ⟨I1, z1, z2, z3⟩ := o2 S1 e2
      have so1 := (oneS_ok so hc e2).1
      rw [z3, kI_o, if_neg (show ¬ (1 : Int) = 0 by decide), wr_id (x := (i : Int) + 1) (by omega) (by omega), show (i : Int) + 1 = ((i + 1 : Nat) : Int) by omega]
      dsimp only
      obtain ⟨i1, i2⟩ := ih (i + 1) f I1 S1 (D + 1) (by rw [show i + 1 + q = i + (q + 1) by omega]; exact hi) (tx.fr fun b q1 q2 => z1 b (by omega) (by omega)) z2 so1 (by omega) (by rw [z1 1 (by omega) (by omega)]; exact e1)
      refine ⟨fun z => ?_, fun S' z => ?_⟩
      · obtain ⟨I2, K', y1, y2, y3⟩ := i1 z
        exact ⟨I2, K', y1.tr z1, y2, y3⟩
      · obtain ⟨I2, y1, y2, y3⟩ := i2 S' z
        exact ⟨I2, y1.tr z1, y2, y3⟩
theorem t_text (s : ShT h) (hcc : cc ≤ 12) (hc : ∀ i, i < cc → OrC (CL i)) (hw : ∀ j x, hR h 15 j = some x → 118 ≤ x) : ∀ (k ci f : Nat) (I : Nat → Nat → Int) (S : OSt) (D : Int), ci + k = cc → TxT h I cc CL → TO h I LW nt S → StO LW L nt D S → D + 20 * k ≤ 90000 → I 1 = z0M → (∀ i, textS L nt CL k ci S = .inl i → ∃ I1 K', i < cc ∧ OnFr I1 I ∧ RL h I1 4 K' LW ∧ lp (d + 6) 76 (f + 22 * k + 1) 13 [some (iR (some 62)), some (iR (some 44)), some (iR (some 4)), some (iR (some 72)), some (iI (ci : Int)), none] [] (st h I J) = some (oI (i : Int), st h I1 J)) ∧ ∀ S', textS L nt CL k ci S = .inr S' → ∃ I1, (StO LW L nt (D + 20 * k) S' ∧ ∀ i, 113 ≤ i → S'.1 i = S.1 i) ∧ OnFr I1 I ∧ TO h I1 LW nt S' ∧ lp (d + 6) 76 (f + 22 * k + 1) 13 [some (iR (some 62)), some (iR (some 44)), some (iR (some 4)), some (iR (some 72)), some (iI (ci : Int)), none] [] (st h I J) = some (oI (-1), st h I1 J) := by
  intro k
  induction k with
  | zero =>
    intro ci f I S D hi tx to so hD e1
    have e7 : I 44 7 = (cc : Int) := by
      obtain ⟨n1, nc, m, a1, a2, a3, a4, -⟩ := tx.1
      exact a4.2.1
    refine ⟨fun i z => ?_, fun S' e => ?_⟩
    · have z' : (Sum.inr S : Sum Nat OSt) = .inl i := z
      cases z'
    · have e' : (Sum.inr S : Sum Nat OSt) = .inr S' := e
      cases e'
      refine ⟨I, ⟨⟨so.1, by have := so.2.1; omega, so.2.2⟩, fun _ _ => rfl⟩, OnFr.rf I, to, ?_⟩
      rw [show f + 22 * 0 + 1 = f + 1 by omega, e_Rn_runAll_13, xB_s, ygIv (aT_44 s) e7, if_neg (by omega)]
  | succ k ih =>
    intro ci f I S D hi tx to so hD e1
    have e7 : I 44 7 = (cc : Int) := by
      obtain ⟨n1, nc, m, a1, a2, a3, a4, -⟩ := tx.1
      exact a4.2.1
    have hci : ci < cc := by omega
    have tm := (hc ci hci).2.1
    obtain ⟨t1, t2⟩ := t_times (d := d) (J := J) (L := L) (LW := LW) (nt := nt) s hci hcc (hc ci hci) hw (CL ci).2.1.toNat 0 (f + 22 * k + 21 - (CL ci).2.1.toNat) I S D (by omega) tx to so (by omega) e1
    rw [show f + 22 * k + 21 - (CL ci).2.1.toNat + (CL ci).2.1.toNat + 1 = f + 22 * k + 22 by omega] at t1 t2
    rw [show f + 22 * (k + 1) + 1 = (f + 22 * k + 22) + 1 by omega, e_Rn_runAll_13, xB_s, ygIv (aT_44 s) e7, if_pos (by omega)]
    cases e2 : timesS L nt (CL ci) (CL ci).2.1.toNat S with
    | none =>
      obtain ⟨I1, K', z1, z2, z3⟩ := t1 e2
      rw [textS_n e2]
      refine ⟨fun i z => ?_, fun S' z => by cases z⟩
      cases z
      exact ⟨I1, K', hci, z1, z2, z3⟩
    | some S1 =>
      obtain ⟨I1, z1, z2, z3⟩ := t2 S1 e2
      have ok := timesS_ok (hc ci hci) _ so e2
      rw [textS_y e2]
      obtain ⟨i1, i2⟩ := ih (ci + 1) (f + 20 - (CL ci).2.1.toNat) I1 S1 (D + 20) (by omega) (tx.fr fun b q1 q2 => z1 b (by omega) (by omega)) z2 ⟨ok.1.1, ⟨ok.1.2.1.1, by have := ok.1.2.1.2; omega⟩, ok.1.2.2⟩ (by omega) (by rw [z1 1 (by omega) (by omega)]; exact e1)
      rw [show f + 20 - (CL ci).2.1.toNat + 22 * k + 1 = f + 22 * k + 21 - (CL ci).2.1.toNat by omega] at i1 i2
      refine ⟨fun i z => ?_, fun S' z => ?_⟩
      · obtain ⟨I2, K', y0, y1, y2, y3⟩ := i1 i z
        exact ⟨I2, K', y0, y1.tr z1, y2, z3.trans y3⟩
      · obtain ⟨I2, ⟨y0, y00⟩, y1, y2, y3⟩ := i2 S' z
        refine ⟨I2, ⟨⟨y0.1, ⟨y0.2.1.1, by have := y0.2.1.2; omega⟩, y0.2.2⟩, fun i hi2 => (y00 i hi2).trans (ok.2 i hi2)⟩, y1.tr z1, y2, z3.trans y3⟩
/-- what can be undone, copied -/
theorem s_psC {a b : Nat} (ha : ShPs h a) (hb : ShPs h b) (hd : a + 1 < b ∨ b + 1 < a) : rn (d + 1) 48 [iR (some a), iR (some b)] (st h I J) = some (o0, st h (cpy (up (up I a 0 (I b 0)) a 1 (I b 1)) (b + 1) 0 (a + 1) 0 1224) J) := by
  rw [r_Ps_copyFrom, e_Ps_copyFrom, xB_s, ygI (Ps_t hb), ypI (Ps_t ha) (Ps_3 ha), xB_s, ygI (Ps_t hb), up_na (show b ≠ a by omega), ypI (Ps_t ha) (Ps_3 ha), xB_s, ygR (Ps_t hb) (Ps_r2 hb), ygR (Ps_t ha) (Ps_r2 ha), ygR (Ps_t ha) (Ps_r2 ha), xB_s, yle (show hT h (a + 1) < 6 by rw [Ps_t1 ha]; decide) (Ps_l1 ha) (by omega), ycpv (i := 0) (j := 0) (c := 1224) (x := 0) (y := 0) (z := ((1224 : Nat) : Int)) (Ps_t1 hb) (Ps_t1 ha) (by omega) (by have := Ps_3 hb; omega) (by have := Ps_3 ha; omega) (Ps_l1 hb) (Ps_l1 ha) rfl rfl rfl (by omega) (by omega)]
/-- orders' text, as the reader leaves it -/
theorem txT_of (s : ShT h) {m : Nat} (g : StOk I) (hm : m ≤ 400) (hcc : cc ≤ 12) (hS : TxS 18 I cc m CL) (e6 : I 44 6 = (m : Int)) (e7 : I 44 7 = (cc : Int)) : TxT h I cc CL := by
  have tx : ShTx h 44 := (s.2.2.2.2.2.2.2.2.1).2.2.2.1
  refine ⟨⟨400, 12, m, tx, ⟨aT_45 s, aT_46 s, aT_47 s, aT_48 s, aT_49 s, aT_50 s⟩, ⟨aL_45 s, aL_46 s, aL_47 s, aL_48 s, aL_49 s, aL_50 s⟩, ⟨e6, e7, hm, by omega, hcc, by omega⟩, fun p hp => ?_, fun i hi => g i⟩, fun i hi => ⟨⟨(hS.1 i hi).1, (hS.1 i hi).2.1⟩, fun q hq ws hw => pl_val ((hS.1 i hi).2.2 q hq) e6 rfl rfl (fun _ _ => ⟨rfl, rfl⟩) hw⟩⟩
  by_cases z : p < 4 * cc
  · have := pl_in ((hS.1 (p / 4) (by omega)).2.2 (p % 4) (by omega)) hm
    rw [show 4 * (p / 4) + p % 4 = p by omega] at this
    show (0 ≤ I 49 p ∧ I 49 p ≤ 1000) ∧ (0 ≤ I 50 p ∧ I 50 p ≤ 1000)
    omega
  · have := hS.2 p (by omega) (by omega)
    show (0 ≤ I 49 p ∧ I 49 p ≤ 1000) ∧ (0 ≤ I 50 p ∧ I 50 p ≤ 1000)
    omega
end P98zb
