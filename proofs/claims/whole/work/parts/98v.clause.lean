/-! A whole clause of ORDERS: the reference (by program, wip/whole/gen98v.py) -/
def OdOk (B : Nat → Int) (n c o : Nat) (I : Nat → Nat → Int) : Prop := EvT B n c ∧ EvR B n c o (I 90) ∧ (0 ≤ I 90 183 ∧ I 90 183 ≤ 7) ∧ (∀ k, k < 18 → bdd (wsO I k)) ∧ o ≤ 2400
def goI (I : Nat → Nat → Int) (e cd ok tm x g b : Int) : Nat → Nat → Int := evI (up (up (up (up (up (up I 88 25 1) 88 23 e) 88 50 cd) 88 51 ok) 88 49 tm) 88 52 x) g b
/-- a clause as ORDERS have it -/
def OrC (cl : Cls) : Prop := (cl.1 = 0 ∨ cl.1 = 1 ∨ cl.1 = 2 ∨ cl.1 = 3) ∧ (1 ≤ cl.2.1 ∧ cl.2.1 ≤ 20) ∧ ∀ i, nrK cl.1 ≤ i → i < 3 → cl.2.2 i = none
section P98v
variable {d n c o : Nat} {h : IH} {I J : Nat → Nat → Int} {B : Nat → Int} {g b x : Int}
theorem goes_in (s : ShM h 88) (e : EvOk B n c o 1 (up (up I 88 25 1) 88 23 ((o + c : Nat) : Int))) {j : Nat} (hj : j < c) (hcn : c ≤ 400) {cd : Int} (hcd : cdM B n (posT B n j) = cd) (e48 : I 88 48 = ((o + j : Nat) : Int)) (lv : Int) : ∃ b0, rn (d + 43) 280 [iR (some 88), iI ((o + c : Nat) : Int), iI lv] (st h I J) = lp (d + 42) 280 999999 76 [some (iR (some 88)), none, some (iI lv), some (iI (if cd = 26 then 0 else if cd = 23 then 3 else 2)), some (iI 0)] [] (st h (evI (up (up (up (up I 88 25 1) 88 23 ((o + c : Nat) : Int)) 88 50 cd) 88 51 1) ((o + (j + 1) : Nat) : Int) b0) J) := by
  have e3 := e.2.1.2.2
  obtain ⟨I0, eI0⟩ : ∃ I0, I0 = up (up I 88 25 1) 88 23 ((o + c : Nat) : Int) := ⟨_, rfl⟩
  rw [← eI0] at e ⊢
  have x48 : I0 88 48 = ((o + j : Nat) : Int) := by rw [eI0, up_ni (by omega), up_ni (by omega)]; exact e48
  have w1 : wr (((o + j : Nat) : Int) + 1) = ((o + (j + 1) : Nat) : Int) := by rw [wr_id (by omega) (by omega)]; omega
  refine ⟨I0 88 24, ?_⟩
  rw [r_M_goesAlong, e_M_goesAlong, ypZ (bT_88 s) (by omega) (Or.inr rfl), ypI (bT_88 s) (by omega), ← eI0, ygI (bT_88 s), x48, ypI (bT_88 s) (by omega), evI_in, ygI (bT_88 s), evI_g, yck (bT_88 s), s_codeAt (d := d + 41) s e (by omega), kI_o, hcd, ypI (bT_88 s) (by omega), evI_o (by omega) (by omega), ygI (bT_88 s), evI_g, ypI (bT_88 s) (by omega), evI_go, w1, ypZ (bT_88 s) (by omega) (Or.inr rfl), evI_o (by omega) (by omega), ygI (bT_88 s), evI_ni (by omega) (by omega), up_ni (by omega), up_eq]
  by_cases c1 : cd = 26
  · rw [if_pos c1, if_pos c1]
  rw [if_neg c1, if_neg c1, ygI (bT_88 s), evI_ni (by omega) (by omega), up_ni (by omega), up_eq]
  by_cases c2 : cd = 23
  · rw [if_pos c2, if_pos c2]
  · rw [if_neg c2, if_neg c2]
theorem ev_goes (s : ShM h 88) (t : EvT B n c) {j l p' l' : Nat} {cl : Cls} (hj : j ≤ c) (hr : aClause B n 1 (posT B n j) l = .inr (p', l', cl)) : ∃ j', (j < j' ∧ j' ≤ c) ∧ posT B n j' = p' ∧ OrC cl ∧ ∀ (I J : Nat → Nat → Int) (lv : Int), OdOk B n c o I → (lv = 0 ∨ lv = 1) → I 88 48 = ((o + j : Nat) : Int) → ∃ (x ok b' : Int) (J' : Nat → Nat → Int), (lv = 1 → x = if valP cl.2.2 3 (wsO I) = 1 then 1 else 0) ∧ ((ok = 0 ∨ ok = 1) ∧ (ok = 1 ↔ okA cl.2.2 lv (wsO I) 0 (nrK cl.1))) ∧ (∀ i, i < nrK cl.1 → J' 116 i = evJ lv 0 (valP cl.2.2 i (wsO I)) ∧ (valP cl.2.2 i (wsO I) = BRK ∨ bdd (valP cl.2.2 i (wsO I)))) ∧ rn (d + 43) 280 [iR (some 88), iI ((o + c : Nat) : Int), iI lv] (st h I J) = some (o0, st h (goI I ((o + c : Nat) : Int) (cdK cl.1) ok cl.2.1 x ((o + (j' + 1) : Nat) : Int) b') J') := by
  have hcn := t.2.1
  unfold aClause aHead at hr
  rw [if_neg (by decide)] at hr
  unfold aOrder at hr
  have key : ∀ (k : Int) (tk : Nat) (bt : Int), ((k = 0 ∧ tk = 272) ∨ (k = 1 ∧ tk = 273) ∨ (k = 2 ∧ tk = 274) ∨ (k = 3 ∧ tk = 275)) → bt ≠ 1001 → tkC B n (posT B n j) = (tk : Int) → (match aHd k (aSums B n 1 bt (nrK k) 0 (tkE B n (posT B n j)) l (fun _ => none)) with
      | .inl q => .inl q
      | .inr (p1, l1, k, P) => match aOft B n 1 p1 with
        | .inl q => .inl q
        | .inr (p2, t) => match aIf B n 1 p2 l1 P with
          | .inl q => .inl q
          | .inr (p3, l3, P3) => .inr (p3, l3, k, t, P3) : Sum Int (Nat × Nat × Cls)) = .inr (p', l', cl) → ∃ j', (j < j' ∧ j' ≤ c) ∧ posT B n j' = p' ∧ OrC cl ∧ ∀ (I J : Nat → Nat → Int) (lv : Int), OdOk B n c o I → (lv = 0 ∨ lv = 1) → I 88 48 = ((o + j : Nat) : Int) → ∃ (x ok b' : Int) (J' : Nat → Nat → Int), (lv = 1 → x = if valP cl.2.2 3 (wsO I) = 1 then 1 else 0) ∧ ((ok = 0 ∨ ok = 1) ∧ (ok = 1 ↔ okA cl.2.2 lv (wsO I) 0 (nrK cl.1))) ∧ (∀ i, i < nrK cl.1 → J' 116 i = evJ lv 0 (valP cl.2.2 i (wsO I)) ∧ (valP cl.2.2 i (wsO I) = BRK ∨ bdd (valP cl.2.2 i (wsO I)))) ∧ rn (d + 43) 280 [iR (some 88), iI ((o + c : Nat) : Int), iI lv] (st h I J) = some (o0, st h (goI I ((o + c : Nat) : Int) (cdK cl.1) ok cl.2.1 x ((o + (j' + 1) : Nat) : Int) b') J') := by
    intro k tk bt hkt hbt htk hr
    have hj1 := (t.end hj).mpr (by omega)
    have hk3 : nrK k ≤ 3 := by
      unfold nrK
      (repeat' split) <;> omega
    have hcd : cdM B n (posT B n j) = cdK k := by
      rcases hkt with ⟨rfl, y2⟩ | ⟨rfl, y2⟩ | ⟨rfl, y2⟩ | ⟨rfl, y2⟩
      · exact (tr_p76 t (m := 21) (tk := 272) (by simp [trPs])).mpr (by omega)
      · exact (tr_p76 t (m := 23) (tk := 273) (by simp [trPs])).mpr (by omega)
      · exact (tr_p76 t (m := 25) (tk := 274) (by simp [trPs])).mpr (by omega)
      · exact (tr_p76 t (m := 26) (tk := 275) (by simp [trPs])).mpr (by omega)
    have hnr : (if cdK k = 26 then (0 : Int) else if cdK k = 23 then 3 else 2) = ((0 + nrK k : Nat) : Int) := by
      rcases hkt with ⟨rfl, -⟩ | ⟨rfl, -⟩ | ⟨rfl, -⟩ | ⟨rfl, -⟩ <;> decide
    cases e1 : aSums B n 1 bt (nrK k) 0 (tkE B n (posT B n j)) l (fun _ => none) with
    | inl q =>
      rw [e1] at hr
      cases hr
    | inr y =>
      obtain ⟨p1, l1, P1⟩ := y
      rw [e1] at hr
      have hr2 : (match aTimes B n p1 with
        | .inl q => .inl q
        | .inr (p2, t) => match aIf B n 1 p2 l1 P1 with
          | .inl q => .inl q
          | .inr (p3, l3, P3) => .inr (p3, l3, k, t, P3) : Sum Int (Nat × Nat × Cls)) = .inr (p', l', cl) := hr
      obtain ⟨j1, a1, a2, a3, a4⟩ := l_args (d := d) (h := h) (o := o) s t hbt (nrK k) 0 (j + 1) l (fun _ => none) P1 p1 l1 (by omega) (by omega) e1
      subst a2
      cases e2 : aTimes B n (posT B n j1) with
      | inl q =>
        rw [e2] at hr2
        cases hr2
      | inr y =>
        obtain ⟨p2, tm⟩ := y
        rw [e2] at hr2
        try dsimp only at hr2
        cases e4 : aIf B n 1 p2 l1 P1 with
        | inl q =>
          rw [e4] at hr2
          cases hr2
        | inr y =>
          obtain ⟨p3, l3, P3⟩ := y
          rw [e4] at hr2
          cases hr2
          obtain ⟨j2, b1, b2, b3, b4, b5⟩ := ev_tail (d := d) (h := h) (o := o) s t a1.2 (a3 3 (by omega)) e2 e4
          have hval : ∀ i, i < 3 → valP P3 i = valP P1 i := fun i hi => by
            unfold valP
            rw [b4 i (by omega)]
          refine ⟨j2, ⟨by omega, b1.2⟩, b2, ⟨by show k = 0 ∨ k = 1 ∨ k = 2 ∨ k = 3; omega, b3, fun i i1 i2 => by
            have i1' : nrK k ≤ i := i1
            show P3 i = none
            rw [b4 i (by omega), a3 i (by omega)]⟩, fun I J lv e hlv e48 => ?_⟩
          obtain ⟨q1, q2, q3, q4, q5⟩ := e
          have e0 : EvOk B n c o 1 (up (up I 88 25 1) 88 23 ((o + c : Nat) : Int)) := by
            refine ⟨q1, ⟨up_eq _ _ _ _, by rw [up_ni (by omega)]; exact up_eq _ _ _ _, q5⟩, by rw [up_na (by omega), up_na (by omega)]; exact q2, by rw [up_na (by omega), up_na (by omega)]; exact q3, fun i hi => ?_⟩
            rw [wsM1, wsO_u (by omega) (by omega), wsO_u (by omega) (by omega)]
            exact q4 i hi
          have hw : ∀ x : Int, wsO (up (up (up I 88 25 1) 88 23 ((o + c : Nat) : Int)) 88 50 x) = wsO I := fun x => by rw [wsO_u (by omega) (by omega), wsO_u (by omega) (by omega), wsO_u (by omega) (by omega)]
          obtain ⟨b0, g1⟩ := goes_in (d := d) (J := J) s e0 hj1 (by omega) hcd e48 lv
          have e5 := e0.u (i := 50) (x := cdK k) (by omega) (by omega) (by omega) (by omega)
          obtain ⟨J', b', ok, r1, r2, ⟨r3, r4⟩, r5⟩ := a4 _ J lv b0 1 (999998 - 2 * nrK k) e5 hlv (Or.inr rfl)
          rw [hw] at r2 r4
          rw [show 999998 - 2 * nrK k + 2 * nrK k + 1 = 999999 by omega] at r5
          obtain ⟨x, b'', m1, m2⟩ := b5 _ J' lv b' ((0 + nrK k : Nat) : Int) (999997 - 2 * nrK k) (e5.u (i := 51) (x := ok) (by omega) (by omega) (by omega) (by omega)) hlv
          rw [wsO_u (by omega) (by omega), hw] at m1
          rw [show 999997 - 2 * nrK k + 2 = 999998 - 2 * nrK k + 1 by omega] at m2
          refine ⟨x, ok, b'', J', m1, ⟨r3, ?_⟩, fun i hi => ?_, ?_⟩
          · rw [r4]
            constructor
            · intro z i i1 i2
              have i2' : i < 0 + nrK k := i2
              have := z.2 i i1 i2'
              show ¬ (lv = 1 ∧ valP P3 i (wsO I) = BRK)
              rw [hval i (by omega)]
              exact this
            · intro z
              refine ⟨rfl, fun i i1 i2 => ?_⟩
              have := z i i1 i2
              have w : ¬ (lv = 1 ∧ valP P3 i (wsO I) = BRK) := this
              rw [hval i (by omega)] at w
              exact w
          · have hi' : i < nrK k := hi
            have := r2 i (by omega) (by omega)
            show J' 116 i = evJ lv 0 (valP P3 i (wsO I)) ∧ (valP P3 i (wsO I) = BRK ∨ bdd (valP P3 i (wsO I)))
            rw [hval i (by omega)]
            exact this
          · rw [hnr] at g1
            rw [g1]
            refine Eq.trans ?_ m2
            exact r5
  by_cases c1 : tkC B n (posT B n j) = 272
  · rw [if_pos c1] at hr
    exact key 0 272 276 (by omega) (by omega) c1 hr
  rw [if_neg c1] at hr
  by_cases c2 : tkC B n (posT B n j) = 273
  · rw [if_pos c2] at hr
    exact key 1 273 277 (by omega) (by omega) c2 hr
  rw [if_neg c2] at hr
  by_cases c3 : tkC B n (posT B n j) = 274
  · rw [if_pos c3] at hr
    exact key 2 274 277 (by omega) (by omega) c3 hr
  rw [if_neg c3] at hr
  by_cases c4 : tkC B n (posT B n j) = 275
  · rw [if_pos c4] at hr
    exact key 3 275 277 (by omega) (by omega) c4 hr
  · rw [if_neg c4] at hr
    cases hr
end P98v
