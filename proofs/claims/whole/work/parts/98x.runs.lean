/-! The reference runs ORDERS (by program, wip/whole/gen98x.py) -/
section P98x
variable {d n c o nt : Nat} {h : IH} {I I' J A : Nat → Nat → Int} {B : Nat → Int} {K K' : Nat → Int} {L : LwV} {LW : Nat → Nat × (Nat → Cls)} {a b x : Int} {D : Int} {S S' : OSt} {cl : Cls}
theorem goI_52 {e cd ok tm x g b : Int} : goI I e cd ok tm x g b 88 52 = x := by
  unfold goI
  rw [evI_ni (by omega) (by omega), up_eq]
theorem goI_51 {e cd ok tm x g b : Int} : goI I e cd ok tm x g b 88 51 = ok := by
  unfold goI
  rw [evI_ni (by omega) (by omega), up_ni (by omega), up_ni (by omega), up_eq]
theorem goI_50 {e cd ok tm x g b : Int} : goI I e cd ok tm x g b 88 50 = cd := by
  unfold goI
  rw [evI_ni (by omega) (by omega), up_ni (by omega), up_ni (by omega), up_ni (by omega), up_eq]
theorem goI_49 {e cd ok tm x g b : Int} : goI I e cd ok tm x g b 88 49 = tm := by
  unfold goI
  rw [evI_ni (by omega) (by omega), up_ni (by omega), up_eq]
theorem goI_22 {e cd ok tm x g b : Int} : goI I e cd ok tm x g b 88 22 = g := by
  unfold goI
  rw [evI_g]
theorem mvF_ok (k : CK K LW L nt) {kd a b c : Int} (hk : kd = 0 ∨ kd = 1 ∨ kd = 2 ∨ kd = 3) (hv : 0 ≤ mvV kd K L a b c) : CK (mvF kd K L nt a b c) LW L nt ∧ (∀ i, 113 ≤ i → mvF kd K L nt a b c i = K i) ∧ (kd = 3 → mvV kd K L a b c ≤ 693) := by
  have kk := k.1
  have k1 := kk.1
  rcases hk with rfl | rfl | rfl | rfl
  · have hv' : 0 ≤ swapV K L a b := hv
    obtain ⟨c1, c2, c3⟩ := swapV_c hv'
    have e : ∀ i, 113 ≤ i → swapF K a b i = K i := fun i hi => swapF_hi (by omega) (by omega) (by omega)
    exact ⟨k.cg (swapF_okI kk c1 c2 c3) fun i hi => e i (by omega), e, fun z => absurd z (by decide)⟩
  · have hv' : 0 ≤ roundV K L a b c := hv
    obtain ⟨⟨c1, c2, c3⟩, d1, d2, d3⟩ := roundV_c hv'
    have e : ∀ i, 113 ≤ i → roundF K a b c i = K i := fun i hi => roundF_hi (by omega) (by omega) (by omega) (by omega)
    exact ⟨k.cg (roundF_okI kk c1 c2 c3 d1 d2 d3) fun i hi => e i (by omega), e, fun z => absurd z (by decide)⟩
  · have hv' : 0 ≤ closeV K a b := hv
    obtain ⟨c1, c2, c3, -⟩ := closeV_c hv'
    have e : ∀ i, 113 ≤ i → closeF K a b i = K i := fun i hi => closeF_hi (by omega) (by omega) (by omega)
    refine ⟨k.cg ?_ fun i hi => e i (by omega), e, fun z => absurd z (by decide)⟩
    show KOk (closeF K a b)
    have e1 : a = (a.toNat : Int) := by omega
    have e2 : b = (b.toNat : Int) := by omega
    rw [e1, e2]
    exact closeF_ok kk (by omega) (by omega) (by omega)
  · have hv' : 0 ≤ passV K L := hv
    have hy := (passV_in (L := L) kk).2 hv'
    have e : ∀ i, 113 ≤ i → passK K L nt i = K i := fun i hi => passK_at i (by have := k.2.2.2; omega) (by omega) (by omega)
    exact ⟨k.cg (passK_ok kk k.2.2.2.symm hy) fun i hi => e i (by omega), e, fun _ => ((passV_in (L := L) kk).1 hy).2⟩
theorem oneS_ok (so : StO LW L nt D S) (hc : OrC cl) (e : oneS L nt cl S = some S') : StO LW L nt (D + 1) S' ∧ ∀ i, 113 ≤ i → S'.1 i = S.1 i := by
  obtain ⟨s1, s2, s3, s4⟩ := so
  unfold oneS at e
  by_cases c1 : valP cl.2.2 3 (wdS S.1 S.2.1 S.2.2.1) = 1
  case neg =>
    rw [if_neg c1] at e
    cases e
    exact ⟨⟨s1, by omega, s3, s4⟩, fun _ _ => rfl⟩
  rw [if_pos c1] at e
  by_cases c2 : okA cl.2.2 1 (wdS S.1 S.2.1 S.2.2.1) 0 (nrK cl.1)
  case neg =>
    rw [if_neg c2] at e
    cases e
  rw [if_pos c2] at e
  by_cases c3 : 0 ≤ mvV cl.1 S.1 L (valP cl.2.2 0 (wdS S.1 S.2.1 S.2.2.1)) (valP cl.2.2 1 (wdS S.1 S.2.1 S.2.2.1)) (valP cl.2.2 2 (wdS S.1 S.2.1 S.2.2.1))
  case neg =>
    rw [if_neg c3] at e
    cases e
  rw [if_pos c3] at e
  cases e
  obtain ⟨m1, m2, m3⟩ := mvF_ok s1 hc.1 c3
  refine ⟨⟨m1, by show 0 ≤ S.2.1 + 1 ∧ S.2.1 + 1 ≤ D + 1; omega, ?_, by show S.2.2.2.1 - sO S.2.2.2.1 + 1 ≤ 16; unfold sO; split <;> omega⟩, m2⟩
  show -1 ≤ (if cl.1 = 3 then _ else S.2.2.1) ∧ (if cl.1 = 3 then _ else S.2.2.1) ≤ 1000
  by_cases c4 : cl.1 = 3
  · have := m3 c4
    rw [if_pos c4]
    omega
  · rw [if_neg c4]
    exact s3
theorem timesS_ok (hc : OrC cl) : ∀ (q : Nat) {D : Int} {S : OSt}, StO LW L nt D S → timesS L nt cl q S = some S' → StO LW L nt (D + q) S' ∧ ∀ i, 113 ≤ i → S'.1 i = S.1 i
  | 0, D, S, so, e => by
    have e' : some S = some S' := e
    cases e'
    obtain ⟨s1, s2, s3, s4⟩ := so
    exact ⟨⟨s1, by omega, s3, s4⟩, fun _ _ => rfl⟩
  | q + 1, D, S, so, e => by
    unfold timesS at e
    cases e1 : oneS L nt cl S with
    | none =>
      rw [e1] at e
      cases e
    | some S1 =>
      rw [e1] at e
      have o1 := oneS_ok so hc e1
      have o2 := timesS_ok hc q o1.1 e
      refine ⟨?_, fun i hi => (o2.2 i hi).trans (o1.2 i hi)⟩
      have : D + 1 + (q : Int) = D + ((q + 1 : Nat) : Int) := by omega
      rw [← this]
      exact o2.1
theorem m_runs (s : ShM h 88) (t : EvT B n c) {j l p' l' : Nat} {cl : Cls} (hj : j ≤ c) (hr : aClause B n 1 (posT B n j) l = .inr (p', l', cl)) : ∃ j', (j < j' ∧ j' ≤ c) ∧ posT B n j' = p' ∧ OrC cl ∧ ∀ (I J : Nat → Nat → Int) (S : OSt) (D : Int), RO I S → StO LW L nt D S → D ≤ 10000 → EvR B n c o S.1 → o ≤ 2400 → I 88 48 = ((o + j : Nat) : Int) → (timesS L nt cl cl.2.1.toNat S = none → ∃ I' J', RuFr I' I ∧ rn (d + 50) 283 [iR (some 88), iI ((o + c : Nat) : Int)] (st h I J) = some (oI 0, st h I' J')) ∧ ∀ S', timesS L nt cl cl.2.1.toNat S = some S' → ∃ I' J', RuFr I' I ∧ RO I' S' ∧ I' 88 48 = ((o + (j' + 1) : Nat) : Int) ∧ rn (d + 50) 283 [iR (some 88), iI ((o + c : Nat) : Int)] (st h I J) = some (oI 1, st h I' J') := by
  have hcn := t.2.1
  obtain ⟨j', a1, a2, a3, a4⟩ := ev_goes (d := d + 6) (h := h) (o := o) s t hj hr
  refine ⟨j', a1, a2, a3, ?_⟩
  have tm := a3.2.1
  have hod : ∀ (I : Nat → Nat → Int) (S : OSt) (D : Int), RO I S → StO LW L nt D S → D ≤ 20000 → EvR B n c o S.1 → o ≤ 2400 → OdOk B n c o I := fun I S D r so hD ev ho => by
    refine ⟨t, by rw [r.1]; exact ev, by rw [r.1]; exact so.1.1.1, fun k hk => ?_, ho⟩
    rw [r.ws]
    exact wdS_bd so.1.1 (by have := so.2.1; omega) so.2.2.1 k hk
  have loop : ∀ (q i f : Nat) (I J : Nat → Nat → Int) (S : OSt) (D : Int), ((i + q : Nat) : Int) = cl.2.1 → RO I S → StO LW L nt D S → D + q ≤ 20000 → EvR B n c o S.1 → o ≤ 2400 → I 88 48 = ((o + j : Nat) : Int) → (timesS L nt cl q S = none → ∃ I' J', RuFr I' I ∧ lp (d + 49) 283 (f + q + 1) 19 [some (iR (some 88)), some (iI ((o + c : Nat) : Int)), some (iI cl.2.1), some (iI ((o + (j' + 1) : Nat) : Int)), some (iI (i : Int))] [] (st h I J) = some (oI 0, st h I' J')) ∧ ∀ S', timesS L nt cl q S = some S' → ∃ I' J', RuFr I' I ∧ RO I' S' ∧ I' 88 48 = ((o + (j' + 1) : Nat) : Int) ∧ lp (d + 49) 283 (f + q + 1) 19 [some (iR (some 88)), some (iI ((o + c : Nat) : Int)), some (iI cl.2.1), some (iI ((o + (j' + 1) : Nat) : Int)), some (iI (i : Int))] [] (st h I J) = some (oI 1, st h I' J') := by
    intro q
    induction q with
    | zero =>
      intro i f I J S D hi r so hD ev ho e48
      refine ⟨fun z => absurd z (by intro w; cases w), fun S' e => ?_⟩
      have e' : some S = some S' := e
      cases e'
      refine ⟨up I 88 48 ((o + (j' + 1) : Nat) : Int), J, RuFr.u I _ (by omega), r.fr (up_na (by omega)) (up_na (by omega)) (up_ni (by omega)) (up_ni (by omega)) (up_ni (by omega)), up_eq _ _ _ _, ?_⟩
      rw [Nat.add_zero, e_M_runs_19, if_neg (by omega), ypI (bT_88 s) (by omega), xZ_1]
    | succ q ih =>
      intro i f I J S D hi r so hD ev ho e48
      have od := hod I S D r so (by omega) ev ho
      obtain ⟨x, ok, b', J1, g1, ⟨g2, g3⟩, g4, g5⟩ := a4 I J 1 od (Or.inr rfl) e48
      obtain ⟨I1, eI1⟩ : ∃ I1, I1 = goI I ((o + c : Nat) : Int) (cdK cl.1) ok cl.2.1 x ((o + (j' + 1) : Nat) : Int) b' := ⟨_, rfl⟩
      rw [← eI1] at g5
      have g1 := g1 rfl
      rw [r.ws] at g1 g3 g4
      have F1 : RuFr I1 I := by rw [eI1]; exact goI_fr _ _ _ _ _ _ _ _
      have r1 : RO I1 S := by
        rw [eI1]
        exact r.fr (goI_o (by omega)) (goI_o (by omega)) (goI_88 (by omega) (by omega) (by omega) (by omega) (by omega)) (goI_88 (by omega) (by omega) (by omega) (by omega) (by omega)) (goI_88 (by omega) (by omega) (by omega) (by omega) (by omega))
      have x48 : I1 88 48 = ((o + j : Nat) : Int) := by rw [eI1, goI_88 (by omega) (by omega) (by omega) (by omega) (by omega)]; exact e48
      have x52 : I1 88 52 = x := by rw [eI1]; exact goI_52
      have x51 : I1 88 51 = ok := by rw [eI1]; exact goI_51
      have x50 : I1 88 50 = cdK cl.1 := by rw [eI1]; exact goI_50
      have w1 : wr ((i : Int) + 1) = ((i + 1 : Nat) : Int) := by rw [wr_id (by omega) (by omega)]; omega
      rw [show f + (q + 1) + 1 = (f + q + 1) + 1 by omega, e_M_runs_19, if_pos (by omega), yck (bT_88 s), g5, kV_o, ygIv (bT_88 s) x52]
      unfold timesS
      by_cases c1 : valP cl.2.2 3 (wdS S.1 S.2.1 S.2.2.1) = 1
      case neg =>
        rw [if_neg c1] at g1
        have e1 : oneS L nt cl S = some S := by unfold oneS; rw [if_neg c1]
        rw [e1, if_pos g1, w1]
        have i0 := ih (i + 1) f I1 J1 S D (by rw [show i + 1 + q = i + (q + 1) by omega]; exact hi) r1 so (by omega) ev ho x48
        refine ⟨fun z => ?_, fun S' z => ?_⟩
        · obtain ⟨I', J', z1, z2⟩ := i0.1 z
          exact ⟨I', J', z1.tr F1, z2⟩
        · obtain ⟨I', J', z1, z2, z3, z4⟩ := i0.2 S' z
          exact ⟨I', J', z1.tr F1, z2, z3, z4⟩
      rw [if_pos c1] at g1
      rw [if_neg (by omega), ygIv (bT_88 s) x51]
      by_cases c2 : okA cl.2.2 1 (wdS S.1 S.2.1 S.2.2.1) 0 (nrK cl.1)
      case neg =>
        have e1 : oneS L nt cl S = none := by unfold oneS; rw [if_pos c1, if_neg c2]
        have ok0 : ok = 0 := by
          rcases g2 with z | z
          · exact z
          · exact absurd (g3.1 z) c2
        rw [e1, if_pos ok0, xZ_0]
        exact ⟨fun _ => ⟨I1, J1, F1, rfl⟩, fun S' z => by cases z⟩
      have ok1 := g3.2 c2
      rw [if_neg (by omega), yck (bT_88 s)]
      have hv : ∀ i, i < nrK cl.1 → J1 116 i = valP cl.2.2 i (wdS S.1 S.2.1 S.2.2.1) := fun i hi => by
        rw [(g4 i hi).1]
        have := c2 i (by omega) (by omega)
        unfold evJ
        rw [if_neg]
        intro z
        rcases z with z | z | z
        · exact absurd z (by decide)
        · exact absurd z (by decide)
        · exact this ⟨rfl, z⟩
      have kk := so.1.1
      have hL : LwR (I1 90) L := by
        rw [r1.1, ← so.1.2.2.1]
        exact lvOf_ok kk so.1.2.1
      obtain ⟨I2, v, b1, b2, b3, b4⟩ := m_obey (d := d + 1) (J := J1) (I := I1) (L := L) (n := nt) s (by rw [r1.1]; exact kk) hL (by rw [r1.1]; exact so.1.2.2.2) r1.2.2.1 so.2.2.2 (kd := cl.1) (a := valP cl.2.2 0 (wdS S.1 S.2.1 S.2.2.1)) (b := valP cl.2.2 1 (wdS S.1 S.2.1 S.2.2.1)) (c := valP cl.2.2 2 (wdS S.1 S.2.1 S.2.2.1)) a3.1 x50 (hv 0) (hv 1) (hv 2)
      rw [r1.1] at b2 b4
      rw [b1, kI_o]
      by_cases c3 : 0 ≤ mvV cl.1 S.1 L (valP cl.2.2 0 (wdS S.1 S.2.1 S.2.2.1)) (valP cl.2.2 1 (wdS S.1 S.2.1 S.2.2.1)) (valP cl.2.2 2 (wdS S.1 S.2.1 S.2.2.1))
      case neg =>
        have e1 : oneS L nt cl S = none := by unfold oneS; rw [if_pos c1, if_pos c2, if_neg c3]
        rw [e1, if_pos (by have : ¬ 0 ≤ v := fun z => c3 (b2.1 z); omega), xZ_0]
        exact ⟨fun _ => ⟨I2, J1, b3.tr F1, rfl⟩, fun S' z => by cases z⟩
      obtain ⟨b5, b6, b7, b8, b9⟩ := b4 c3
      cases e1 : oneS L nt cl S with
      | none =>
        unfold oneS at e1
        rw [if_pos c1, if_pos c2, if_pos c3] at e1
        cases e1
      | some S1 =>
        have so1 := oneS_ok so a3 e1
        unfold oneS at e1
        rw [if_pos c1, if_pos c2, if_pos c3] at e1
        cases e1
        have dn := so.2.1
        have x27 : I2 88 27 = S.2.1 := b7.trans r1.2.1.1
        rw [if_neg (show ¬ v < 0 by have := b2.2 c3; omega), ygIv (bT_88 s) x27, ypI (bT_88 s) (by omega), w1, wr_id (x := S.2.1 + 1) (by omega) (by omega)]
        dsimp only
        have r2 : RO (up I2 88 27 (S.2.1 + 1)) (mvF cl.1 S.1 L nt (valP cl.2.2 0 (wdS S.1 S.2.1 S.2.2.1)) (valP cl.2.2 1 (wdS S.1 S.2.1 S.2.2.1)) (valP cl.2.2 2 (wdS S.1 S.2.1 S.2.2.1)), S.2.1 + 1, (if cl.1 = 3 then mvV cl.1 S.1 L (valP cl.2.2 0 (wdS S.1 S.2.1 S.2.2.1)) (valP cl.2.2 1 (wdS S.1 S.2.1 S.2.2.1)) (valP cl.2.2 2 (wdS S.1 S.2.1 S.2.2.1)) else S.2.2.1), pushN S.2.2.2.1, pushH S.2.2.2.1 S.2.2.2.2 S.1 cl.1) := by
          obtain ⟨u, s', l1, l2, l3, l4, l5, l6, l7⟩ := b6
          have hu : u = S.2.2.2.1 := by
            have := r1.2.2.1
            omega
          subst hu
          have hs : s' = sO S.2.2.2.1 := l3
          subst hs
          refine ⟨by rw [up_na (by omega)]; exact b5, ⟨up_eq _ _ _ _, ?_⟩, ?_, fun i j hi hj => ?_⟩
          · rw [up_ni (by omega), b8, r1.2.1.2]
          · rw [up_ni (by omega)]
            exact l4
          · rw [up_na (by omega)]
            show I2 101 (114 * i + j) = (if i = S.2.2.2.1 - sO S.2.2.2.1 then (if j < 113 then S.1 j else cl.1) else S.2.2.2.2 (i + sO S.2.2.2.1) j)
            have hi' : i < S.2.2.2.1 - sO S.2.2.2.1 + 1 := hi
            by_cases y : i = S.2.2.2.1 - sO S.2.2.2.1
            · rw [if_pos y, y]
              by_cases y2 : j < 113
              · rw [if_pos y2, l5 j y2, r1.1]
              · rw [if_neg y2, show j = 113 by omega]
                exact l6
            · have hsk : sO S.2.2.2.1 ≤ S.2.2.2.1 := by unfold sO; split <;> omega
              rw [if_neg y, l7 i j (by omega) hj, r1.2.2.2 _ j (by omega) hj]
        have i0 := ih (i + 1) f _ J1 _ (D + 1) (by rw [show i + 1 + q = i + (q + 1) by omega]; exact hi) r2 so1.1 (by omega) (fun k hk => by rw [so1.2 _ (by omega), so1.2 _ (by omega)]; exact ev k hk) ho (by rw [up_ni (by omega), b9, x48])
        refine ⟨fun z => ?_, fun S' z => ?_⟩
        · obtain ⟨I', J', z1, z2⟩ := i0.1 z
          exact ⟨I', J', ((z1.tr (RuFr.u I2 _ (by omega))).tr b3).tr F1, z2⟩
        · obtain ⟨I', J', z1, z2, z3, z4⟩ := i0.2 S' z
          exact ⟨I', J', ((z1.tr (RuFr.u I2 _ (by omega))).tr b3).tr F1, z2, z3, z4⟩
  intro I J S D r so hD ev ho e48
  have od := hod I S D r so (by omega) ev ho
  obtain ⟨x, ok, b', J1, -, -, -, g5⟩ := a4 I J 0 od (Or.inl rfl) e48
  obtain ⟨I1, eI1⟩ : ∃ I1, I1 = goI I ((o + c : Nat) : Int) (cdK cl.1) ok cl.2.1 x ((o + (j' + 1) : Nat) : Int) b' := ⟨_, rfl⟩
  rw [← eI1] at g5
  have F1 : RuFr I1 I := by rw [eI1]; exact goI_fr _ _ _ _ _ _ _ _
  have r1 : RO I1 S := by
    rw [eI1]
    exact r.fr (goI_o (by omega)) (goI_o (by omega)) (goI_88 (by omega) (by omega) (by omega) (by omega) (by omega)) (goI_88 (by omega) (by omega) (by omega) (by omega) (by omega)) (goI_88 (by omega) (by omega) (by omega) (by omega) (by omega))
  have x48 : I1 88 48 = ((o + j : Nat) : Int) := by rw [eI1, goI_88 (by omega) (by omega) (by omega) (by omega) (by omega)]; exact e48
  have x49 : I1 88 49 = cl.2.1 := by rw [eI1]; exact goI_49
  have x22 : I1 88 22 = ((o + (j' + 1) : Nat) : Int) := by rw [eI1]; exact goI_22
  have i0 := loop cl.2.1.toNat 0 (999998 - cl.2.1.toNat) I1 J1 S D (by omega) r1 so (by omega) ev ho x48
  rw [show 999998 - cl.2.1.toNat + cl.2.1.toNat + 1 = 999999 by omega] at i0
  have hh : rn (d + 50) 283 [iR (some 88), iI ((o + c : Nat) : Int)] (st h I J) = lp (d + 49) 283 999999 19 [some (iR (some 88)), some (iI ((o + c : Nat) : Int)), some (iI cl.2.1), some (iI ((o + (j' + 1) : Nat) : Int)), some (iI ((0 : Nat) : Int))] [] (st h I1 J1) := by
    rw [r_M_runs, e_M_runs, yck (bT_88 s), g5, kV_o, ygIv (bT_88 s) x49, ygIv (bT_88 s) x22]
    rfl
  rw [hh]
  refine ⟨fun z => ?_, fun S' z => ?_⟩
  · obtain ⟨I', J', z1, z2⟩ := i0.1 z
    exact ⟨I', J', z1.tr F1, z2⟩
  · obtain ⟨I', J', z1, z2, z3, z4⟩ := i0.2 S' z
    exact ⟨I', J', z1.tr F1, z2, z3, z4⟩
end P98x
