/-! The reference runs a whole text of ORDERS (by program, wip/whole/gen98y.py) -/
section P98y
variable {d n c o nt : Nat} {h : IH} {I I' J A : Nat → Nat → Int} {B : Nat → Int} {K K' : Nat → Int} {L : LwV} {LW : Nat → Nat × (Nat → Cls)} {a b x : Int} {D : Int} {S S' : OSt} {cl : Cls}
theorem textS_y {CL : Nat → Cls} {k i : Nat} (e : timesS L nt (CL i) (CL i).2.1.toNat S = some S') : textS L nt CL (k + 1) i S = textS L nt CL k (i + 1) S' := by
  show (match timesS L nt (CL i) (CL i).2.1.toNat S with
    | none => .inl i
    | some S' => textS L nt CL k (i + 1) S' : Sum Nat OSt) = _
  rw [e]
theorem textS_n {CL : Nat → Cls} {k i : Nat} (e : timesS L nt (CL i) (CL i).2.1.toNat S = none) : textS L nt CL (k + 1) i S = .inl i := by
  show (match timesS L nt (CL i) (CL i).2.1.toNat S with
    | none => .inl i
    | some S' => textS L nt CL k (i + 1) S' : Sum Nat OSt) = _
  rw [e]
/-- what comes of the loop over the clauses: x7 was kept, f steps at least are left -/
def MtO (d : Nat) (L : LwV) (nt : Nat) (h : IH) (I J : Nat → Nat → Int) (CL : Nat → Cls) (x7 e : Int) (k cc f g : Nat) (S : OSt) : Prop :=
  (∀ i, textS L nt CL k cc S = .inl i → ∃ I' J' f', RuFr I' I ∧ f ≤ f' ∧ lp (d + 51) 279 g 96 [some (iR (some 88)), some (iI x7), some (iI e), some (iI (cc : Int)), none] [] (st h I J) = kV (rn (d + 51) 157 [iR (some 88), iI 1] (st h I' J')) fun h4 => lp (d + 51) 279 f' 123 [some (iR (some 88)), some (iI x7), none, some (iI (i : Int)), some (iI 0)] [] h4) ∧
  ∀ S', textS L nt CL k cc S = .inr S' → ∃ I' J', RuFr I' I ∧ RO I' S' ∧ lp (d + 51) 279 g 96 [some (iR (some 88)), some (iI x7), some (iI e), some (iI (cc : Int)), none] [] (st h I J) = some (oI S'.2.1, st h (up I' 88 0 0) J')
/-- one clause more -/
theorem m_clause (s : ShM h 88) (t : EvT B n c) {j l p' l' : Nat} (hj : j ≤ c) (hr : aClause B n 1 (posT B n j) l = .inr (p', l', cl)) : ∃ j', (j < j' ∧ j' ≤ c) ∧ posT B n j' = p' ∧ OrC cl ∧ ∀ (I J : Nat → Nat → Int) (S : OSt) (D : Int) (CL : Nat → Cls) (k cc f g : Nat) (x7 : Int), CL cc = cl → cc ≤ 100 → f ≤ g → RO I S → StO LW L nt D S → D ≤ 10000 → EvR B n c o S.1 → o ≤ 2400 → I 88 48 = ((o + j : Nat) : Int) → (∀ I' J' S', RuFr I' I → RO I' S' → StO LW L nt (D + 20) S' → (∀ i, 113 ≤ i → S'.1 i = S.1 i) → I' 88 48 = ((o + (j' + 1) : Nat) : Int) → MtO d L nt h I' J' CL x7 ((o + c : Nat) : Int) k (cc + 1) f g S') → MtO d L nt h I J CL x7 ((o + c : Nat) : Int) (k + 1) cc f (g + 1) S := by
  have hcn := t.2.1
  obtain ⟨j', a1, a2, a3, a4⟩ := m_runs (d := d + 1) (h := h) (o := o) (nt := nt) (L := L) (LW := LW) s t hj hr
  refine ⟨j', a1, a2, a3, fun I J S D CL k cc f g x7 ecl hcc hfg r so hD ev ho e48 nxt => ?_⟩
  obtain ⟨m1, m2⟩ := a4 I J S D r so hD ev ho e48
  have tm := a3.2.1
  have hstep : lp (d + 51) 279 (g + 1) 96 [some (iR (some 88)), some (iI x7), some (iI ((o + c : Nat) : Int)), some (iI (cc : Int)), none] [] (st h I J) = kI (rn (d + 51) 283 [iR (some 88), iI ((o + c : Nat) : Int)] (st h I J)) fun x3 h2 => (if x3 = 0 then xck h2 88 22 <| kV (rn (d + 51) 157 [iR (some 88), iI 1] h2) fun h4 => lp (d + 51) 279 g 123 [some (iR (some 88)), some (iI x7), none, some (iI (cc : Int)), some (iI 0)] [] h4 else lp (d + 51) 279 g 96 [some (iR (some 88)), some (iI x7), some (iI ((o + c : Nat) : Int)), some (iI ((cc + 1 : Nat) : Int)), none] [] h2) := by
    rw [e_M_orders_96, ygIv (bT_88 s) e48, if_pos (by omega), yck (bT_88 s), wr_id (x := (cc : Int) + 1) (by omega) (by omega), show (cc : Int) + 1 = ((cc + 1 : Nat) : Int) by omega]
  unfold MtO
  rw [hstep]
  cases e1 : timesS L nt cl cl.2.1.toNat S with
  | none =>
    obtain ⟨I', J', z1, z2⟩ := m1 e1
    have z2' : rn (d + 51) 283 [iR (some 88), iI ((o + c : Nat) : Int)] (st h I J) = some (oI 0, st h I' J') := z2
    have et : textS L nt CL (k + 1) cc S = .inl cc := textS_n (by rw [ecl]; exact e1)
    rw [et]
    refine ⟨fun i hi => ?_, fun S' z => by cases z⟩
    cases hi
    refine ⟨I', J', g, z1, hfg, ?_⟩
    rw [z2', kI_o, if_pos rfl, yck (bT_88 s)]
  | some S1 =>
    obtain ⟨I', J', z1, z2, z3, z4⟩ := m2 S1 e1
    have z4' : rn (d + 51) 283 [iR (some 88), iI ((o + c : Nat) : Int)] (st h I J) = some (oI 1, st h I' J') := z4
    have et : textS L nt CL (k + 1) cc S = textS L nt CL k (cc + 1) S1 := textS_y (by rw [ecl]; exact e1)
    have ok := timesS_ok a3 _ so e1
    have so1 : StO LW L nt (D + 20) S1 := ⟨ok.1.1, ⟨ok.1.2.1.1, by have := ok.1.2.1.2; omega⟩, ok.1.2.2⟩
    obtain ⟨n1, n2⟩ := nxt I' J' S1 z1 z2 so1 ok.2 z3
    rw [et, z4', kI_o, if_neg (by decide)]
    refine ⟨fun i hi => ?_, fun S' z => ?_⟩
    · obtain ⟨I2, J2, f', w1, w2, w3⟩ := n1 i hi
      exact ⟨I2, J2, f', w1.tr z1, w2, w3⟩
    · obtain ⟨I2, J2, w1, w2, w3⟩ := n2 S' z
      exact ⟨I2, J2, w1.tr z1, w2, w3⟩
theorem m_text (s : ShM h 88) (t : EvT B n c) : ∀ (k cc j l cf : Nat) (CL0 CL : Nat → Cls), n - posT B n j ≤ k → j ≤ c → aTextL B n 1 k cc (posT B n j) l CL0 = .inr (cf, CL) → ((cc ≤ cf ∧ (cc ≤ 12 → cf ≤ 12)) ∧ (∀ i, i < cc → CL i = CL0 i) ∧ ∀ i, cc ≤ i → i < cf → OrC (CL i)) ∧ ∀ (I J : Nat → Nat → Int) (S : OSt) (D : Int) (f : Nat) (x7 : Int), cc ≤ 12 → RO I S → StO LW L nt D S → D + 20 * (12 - cc) ≤ 10000 → EvR B n c o S.1 → o ≤ 2400 → I 88 48 = ((o + (j + 1) : Nat) : Int) → MtO d L nt h I J CL x7 ((o + c : Nat) : Int) (cf - cc) cc f (f + k + 1) S := by
  have hcn := t.2.1
  have fin : ∀ (j cc f g : Nat) (CL : Nat → Cls), j = c → ∀ (I J : Nat → Nat → Int) (S : OSt) (x7 : Int), RO I S → I 88 48 = ((o + (j + 1) : Nat) : Int) → MtO d L nt h I J CL x7 ((o + c : Nat) : Int) 0 cc f (g + 1) S := by
    intro j cc f g CL hj I J S x7 r e48
    refine ⟨fun i hi => ?_, fun S' e => ?_⟩
    · have e' : (Sum.inr S : Sum Nat OSt) = .inl i := hi
      cases e'
    have e' : (Sum.inr S : Sum Nat OSt) = .inr S' := e
    cases e'
    refine ⟨I, J, RuFr.rf I, r, ?_⟩
    rw [e_M_orders_96, ygIv (bT_88 s) e48, if_neg (by omega), ygIv (bT_88 s) r.2.1.1, yck (bT_88 s), s_good s, kI_o]
  intro k
  induction k with
  | zero =>
    intro cc j l cf CL0 CL hk hj hr
    have hr2 : (Sum.inr (cc, CL0) : Sum Int (Nat × (Nat → Cls))) = .inr (cf, CL) := hr
    cases hr2
    have hp := posT_le (B := B) (n := n) j
    have hpn : ¬ (tkC B n (posT B n j) ≠ 1001) := fun q => by
      have := tkE_lt hp q
      omega
    have hc : tkC B n (posT B n j) = 1001 := Decidable.not_not.mp hpn
    have hjc : j = c := by
      have := (t.end hj).mp
      by_cases q : j < c
      · exact absurd hc (this q)
      · omega
    refine ⟨⟨⟨Nat.le_refl _, fun z => z⟩, fun _ _ => rfl, fun i i1 i2 => by omega⟩, fun I J S D f x7 _ r so hD ev ho e48 => ?_⟩
    rw [Nat.sub_self]
    exact fin j cc f (f + 0) _ hjc I J S x7 r e48
  | succ k ih =>
    intro cc j l cf CL0 CL hk hj hr
    unfold aTextL at hr
    by_cases c1 : tkC B n (posT B n j) = 59
    · rw [if_pos c1] at hr
      by_cases c2 : 12 ≤ cc
      · rw [if_pos c2] at hr
        cases hr
      rw [if_neg c2] at hr
      have hj1 := (t.end hj).mpr (by omega)
      have hp := tkE_lt (posT_le (B := B) (n := n) j) (show tkC B n (posT B n j) ≠ 1001 by omega)
      cases e1 : aClause B n 1 (tkE B n (posT B n j)) l with
      | inl q =>
        rw [e1] at hr
        cases hr
      | inr x =>
        obtain ⟨p1, l1, cl⟩ := x
        rw [e1] at hr
        obtain ⟨j1, a1, a2, a3, a4⟩ := m_clause (d := d) (h := h) (o := o) (nt := nt) (L := L) (LW := LW) s t (j := j + 1) (by omega) e1
        subst a2
        have hmono : posT B n (j + 1) ≤ posT B n j1 := by
          have := posT_mono (B := B) (n := n) (i := j + 1) (j1 - (j + 1))
          rwa [show j + 1 + (j1 - (j + 1)) = j1 by omega] at this
        have he : posT B n (j + 1) = tkE B n (posT B n j) := rfl
        obtain ⟨⟨⟨b1, b1'⟩, b2, b2'⟩, b3⟩ := ih (cc + 1) j1 l1 cf (fun jj => if jj = cc then cl else CL0 jj) CL (by omega) a1.2 hr
        have ecl : CL cc = cl := by rw [b2 cc (by omega), if_pos rfl]
        refine ⟨⟨⟨by omega, fun _ => b1' (by omega)⟩, fun i hi => by rw [b2 i (by omega), if_neg (by omega)], fun i i1 i2 => ?_⟩, fun I J S D f x7 hcc r so hD ev ho e48 => ?_⟩
        · by_cases z : i = cc
          · rw [z, ecl]
            exact a3
          · exact b2' i (by omega) i2
        · rw [show cf - cc = (cf - (cc + 1)) + 1 by omega, show f + (k + 1) + 1 = (f + k + 1) + 1 by omega]
          refine a4 I J S D CL (cf - (cc + 1)) cc f (f + k + 1) x7 ecl (by omega) (by omega) r so (by omega) ev ho e48 fun I' J' S' w1 w2 w3 w4 w5 => ?_
          exact b3 I' J' S' (D + 20) f x7 (by omega) w2 w3 (by omega) (fun i hi => by rw [w4 _ (by omega), w4 _ (by omega)]; exact ev i hi) ho w5
    · rw [if_neg c1] at hr
      by_cases c2 : tkC B n (posT B n j) = 1001
      · rw [if_pos c2] at hr
        cases hr
        have hjc : j = c := by
          have := (t.end hj).mp
          by_cases q : j < c
          · exact absurd c2 (this q)
          · omega
        refine ⟨⟨⟨Nat.le_refl _, fun z => z⟩, fun _ _ => rfl, fun i i1 i2 => by omega⟩, fun I J S D f x7 _ r so hD ev ho e48 => ?_⟩
        rw [Nat.sub_self]
        exact fin j cc f (f + (k + 1)) _ hjc I J S x7 r e48
      · rw [if_neg c2] at hr
        cases hr
/-- a whole text -/
theorem m_textA (s : ShM h 88) (t : EvT B n c) {cf : Nat} {CL : Nat → Cls} (hr : aText B n 1 = .inr (cf, CL)) : (∀ i, i < cf → OrC (CL i)) ∧ (1 ≤ cf ∧ cf ≤ 12) ∧ ∀ (I J : Nat → Nat → Int) (S : OSt) (f : Nat) (x7 : Int), RO I S → StO LW L nt 0 S → EvR B n c o S.1 → o ≤ 2400 → I 88 48 = (o : Int) → MtO d L nt h I J CL x7 ((o + c : Nat) : Int) cf 0 f (f + n + 2) S := by
  unfold aText at hr
  cases e1 : aClause B n 1 0 0 with
  | inl q =>
    rw [e1] at hr
    cases hr
  | inr x =>
    obtain ⟨p1, l1, cl⟩ := x
    rw [e1] at hr
    have hr' : aTextL B n 1 (n - p1) 1 p1 l1 (fun _ => cl) = .inr (cf, CL) := hr
    obtain ⟨j1, a1, a2, a3, a4⟩ := m_clause (d := d) (h := h) (o := o) (nt := nt) (L := L) (LW := LW) s t (j := 0) (by omega) e1
    subst a2
    obtain ⟨⟨⟨b1, b1'⟩, b2, b2'⟩, b3⟩ := m_text (d := d) (h := h) (o := o) (nt := nt) (L := L) (LW := LW) s t (n - posT B n j1) 1 j1 l1 cf (fun _ => cl) CL (Nat.le_refl _) a1.2 hr'
    have ecl : CL 0 = cl := b2 0 (by omega)
    refine ⟨fun i hi => ?_, ⟨b1, b1' (by omega)⟩, fun I J S f x7 r so ev ho e48 => ?_⟩
    · by_cases z : i = 0
      · rw [z, ecl]
        exact a3
      · exact b2' i (by omega) hi
    · have e := a4 I J S 0 CL (cf - 1) 0 f (f + n + 1) x7 ecl (by omega) (by omega) r so (by omega) ev ho (by rw [Nat.add_zero]; exact e48) fun I' J' S' w1 w2 w3 w4 w5 => by
        have q := b3 I' J' S' (0 + 20) (f + posT B n j1) x7 (by omega) w2 w3 (by omega) (fun i hi => by rw [w4 _ (by omega), w4 _ (by omega)]; exact ev i hi) ho w5
        have hp := posT_le (B := B) (n := n) j1
        rw [show f + posT B n j1 + (n - posT B n j1) + 1 = f + n + 1 by omega] at q
        obtain ⟨q1, q2⟩ := q
        exact ⟨fun i hi => by
          obtain ⟨I2, J2, f', v1, v2, v3⟩ := q1 i hi
          exact ⟨I2, J2, f', v1, by omega, v3⟩, q2⟩
      rw [show cf - 1 + 1 = cf by omega] at e
      exact e
end P98y
