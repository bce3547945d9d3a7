/-! A clause of ORDERS gone along: the reference (by program, wip/whole/gen98u.py) -/
/-- none of these is BROKEN -/
def okA (P : Pls) (lv : Int) (ws : Nat → Int) (q k : Nat) : Prop := ∀ i, q ≤ i → i < q + k → ¬ (lv = 1 ∧ valP P i ws = BRK)
noncomputable def ifO (d : Nat) (lv : Int) (f : Nat) (g : IH) : Option IR := kI (rn (d + 42) 208 [iR (some 88), iI 4] g) fun x g1 => if x = 0 then lp (d + 42) 280 f 211 [some (iR (some 88)), none, none, none, none] [iI 1, iR (some 88)] g1 else xck g1 88 22 <| kI (rn (d + 42) 214 [iR (some 88), iI lv] g1) fun w g2 => if w = 0 then lp (d + 42) 280 f 211 [some (iR (some 88)), none, none, none, none] [iI 0, iR (some 88)] g2 else lp (d + 42) 280 f 211 [some (iR (some 88)), none, none, none, none] [iI 1, iR (some 88)] g2
/-- how many numbers an ORDER of a kind has -/
def nrK (k : Int) : Nat := if k = 3 then 0 else if k = 1 then 3 else 2
def cdK (k : Int) : Int := if k = 0 then 21 else if k = 1 then 23 else if k = 2 then 25 else 26
section P98u
variable {d n c o : Nat} {h : IH} {I J : Nat → Nat → Int} {B : Nat → Int} {g b x : Int}
theorem evI_o {i : Nat} (h1 : i ≠ 22) (h2 : i ≠ 24) : up (evI I g b) 88 i x = evI (up I 88 i x) g b := by
  unfold evI
  funext q k
  unfold up
  by_cases z : q = 88 ∧ k = i
  · rw [if_pos z, if_neg (by omega), if_neg (by omega), if_pos z]
  · rw [if_neg z]
    by_cases y : q = 88 ∧ k = 24
    · rw [if_pos y, if_pos y]
    · rw [if_neg y, if_neg y]
      by_cases w : q = 88 ∧ k = 22
      · rw [if_pos w, if_pos w]
      · rw [if_neg w, if_neg w, if_neg z]
theorem evI_in : up I 88 22 g = evI I g (I 88 24) := by
  unfold evI
  rw [show I 88 24 = (up I 88 22 g) 88 24 from (up_ni (by omega)).symm, up_self]
theorem wsO_u {i : Nat} (h1 : i ≠ 27) (h2 : i ≠ 28) : wsO (up I 88 i x) = wsO I := by
  funext k
  unfold wsO
  rw [up_na (by omega), up_ni (Ne.symm h1), up_ni (Ne.symm h2)]
theorem EvOk.u (e : EvOk B n c o 1 I) {i : Nat} (h1 : i ≠ 23) (h2 : i ≠ 25) (h3 : i ≠ 27) (h4 : i ≠ 28) : EvOk B n c o 1 (up I 88 i x) := by
  obtain ⟨e1, ⟨e2, e3, e4⟩, e5, e6, e7⟩ := e
  refine ⟨e1, ⟨by rw [up_ni (Ne.symm h1)]; exact e2, by rw [up_ni (Ne.symm h2)]; exact e3, e4⟩, by rw [up_na (by omega)]; exact e5, by rw [up_na (by omega)]; exact e6, fun k hk => ?_⟩
  have := e7 k hk
  unfold wsM at this ⊢
  rw [if_neg (by omega)] at this ⊢
  rw [wsO_u h3 h4]
  exact this
theorem posT_lt (t : EvT B n c) {i j : Nat} (hij : i < j) (hj : j ≤ c) : posT B n i < posT B n j := by
  have h1 := (t.end (j := i) (by omega)).mp (by omega)
  have h2 := tkE_lt (posT_le (B := B) (n := n) i) h1
  have h3 := posT_mono (B := B) (n := n) (i := i + 1) (j - (i + 1))
  rw [show i + 1 + (j - (i + 1)) = j by omega] at h3
  have h4 : posT B n (i + 1) = tkE B n (posT B n i) := rfl
  omega
theorem posT_inj (t : EvT B n c) {i j : Nat} (hi : i ≤ c) (hj : j ≤ c) (e : posT B n i = posT B n j) : i = j := by
  rcases Nat.lt_trichotomy i j with z | z | z
  · have := posT_lt t z hj
    omega
  · exact z
  · have := posT_lt t z hi
    omega
theorem wsM1 (I : Nat → Nat → Int) : wsM 1 I = wsO I := if_neg (by decide)
theorem ev_sumJ (s : ShM h 88) (t : EvT B n c) {j l p' l' : Nat} {g : Mng} (hj : j ≤ c) (hr : aSum B n 1 8 (posT B n j) l = .inr (p', l', g)) : ∃ j', (j ≤ j' ∧ j' ≤ c) ∧ posT B n j' = p' ∧ ∀ (I J : Nat → Nat → Int) (lv b : Int), EvOk B n c o 1 I → (lv = 0 ∨ lv = 1) → (b = 0 ∨ b = 1) → (g (wsO I) = BRK ∨ bdd (g (wsO I))) ∧ rn (d + 42) 210 [iR (some 88), iI lv] (st h (evI I ((o + j : Nat) : Int) b) J) = some (oJ (evJ lv b (g (wsO I))), st h (evI I ((o + j' : Nat) : Int) (evB lv b (g (wsO I)))) J) := by
  obtain ⟨j', a1, a2, -⟩ := ev_sumR (d := d + 12) (h := h) (J := fun _ _ => 0) (o := o) s t (Or.inr rfl) 8 j l p' l' g hj hr
  refine ⟨j', a1, a2, fun I J lv b e hlv hb => ?_⟩
  obtain ⟨j2, b1, b2, b3⟩ := ev_sumR (d := d + 12) (h := h) (J := J) (o := o) s t (Or.inr rfl) 8 j l p' l' g hj hr
  have ej : j2 = j' := posT_inj t b1.2 a1.2 (by rw [b2, a2])
  subst ej
  have := b3 I lv b e hlv hb
  rw [wsM1] at this
  exact this
theorem ev_testJ (s : ShM h 88) (t : EvT B n c) {j l p' l' : Nat} {g : Mng} (hj : j ≤ c) (hr : aTest B n 1 8 (posT B n j) l = .inr (p', l', g)) : ∃ j', (j ≤ j' ∧ j' ≤ c) ∧ posT B n j' = p' ∧ ∀ (I J : Nat → Nat → Int) (lv b : Int), EvOk B n c o 1 I → (lv = 0 ∨ lv = 1) → (b = 0 ∨ b = 1) → tst3 (g (wsO I)) ∧ ∃ v, (v = 0 ∨ v = 1) ∧ (lv = 1 → b = 0 → g (wsO I) ≠ BRK → v = g (wsO I)) ∧ rn (d + 42) 214 [iR (some 88), iI lv] (st h (evI I ((o + j : Nat) : Int) b) J) = some (oI v, st h (evI I ((o + j' : Nat) : Int) (evB lv b (g (wsO I)))) J) := by
  obtain ⟨j', a1, a2, -⟩ := ev_testR (d := d) (h := h) (J := fun _ _ => 0) (o := o) s t (Or.inr rfl) 8 j l p' l' g hj hr
  refine ⟨j', a1, a2, fun I J lv b e hlv hb => ?_⟩
  obtain ⟨j2, b1, b2, b3⟩ := ev_testR (d := d) (h := h) (J := J) (o := o) s t (Or.inr rfl) 8 j l p' l' g hj hr
  have ej : j2 = j' := posT_inj t b1.2 a1.2 (by rw [b2, a2])
  subst ej
  have := b3 I lv b e hlv hb
  rw [wsM1] at this
  exact this
theorem evB_0 {lv v : Int} : evB lv 0 v = 0 ↔ ¬ (lv = 1 ∧ v = BRK) := by
  unfold evB
  by_cases q : lv = 1 ∧ v = BRK
  · rw [if_pos q]
    exact ⟨fun z => absurd z (by decide), fun z => absurd q z⟩
  · rw [if_neg q]
    exact ⟨fun _ => q, fun _ => rfl⟩
/-- the numbers of an ORDER -/
theorem l_args (s : ShM h 88) (t : EvT B n c) {bt : Int} (hbt : bt ≠ 1001) : ∀ (k q j l : Nat) (P P' : Pls) (p' l' : Nat), j ≤ c → q + k ≤ 3 → aSums B n 1 bt k q (posT B n j) l P = .inr (p', l', P') → ∃ j', (j ≤ j' ∧ j' ≤ c) ∧ posT B n j' = p' ∧ (∀ i, (i < q ∨ q + k ≤ i) → P' i = P i) ∧ ∀ (I J : Nat → Nat → Int) (lv b ok : Int) (f : Nat), EvOk B n c o 1 I → (lv = 0 ∨ lv = 1) → (ok = 0 ∨ ok = 1) → ∃ (J' : Nat → Nat → Int) (b' ok' : Int), (∀ i, i < q → J' 116 i = J 116 i) ∧ (∀ i, q ≤ i → i < q + k → J' 116 i = evJ lv 0 (valP P' i (wsO I)) ∧ (valP P' i (wsO I) = BRK ∨ bdd (valP P' i (wsO I)))) ∧ ((ok' = 0 ∨ ok' = 1) ∧ (ok' = 1 ↔ ok = 1 ∧ okA P' lv (wsO I) q k)) ∧ lp (d + 42) 280 (f + 2 * k + 1) 76 [some (iR (some 88)), none, some (iI lv), some (iI ((q + k : Nat) : Int)), some (iI (q : Int))] [] (st h (evI (up I 88 51 ok) ((o + j : Nat) : Int) b) J) = lp (d + 42) 280 (f + 1) 76 [some (iR (some 88)), none, some (iI lv), some (iI ((q + k : Nat) : Int)), some (iI ((q + k : Nat) : Int))] [] (st h (evI (up I 88 51 ok') ((o + j' : Nat) : Int) b') J') := by
  intro k
  induction k with
  | zero =>
    intro q j l P P' p' l' hj hq hr
    have hr2 : (Sum.inr (posT B n j, l, P) : Sum Int (Nat × Nat × Pls)) = .inr (p', l', P') := hr
    cases hr2
    refine ⟨j, ⟨Nat.le_refl _, hj⟩, rfl, fun _ _ => rfl, fun I J lv b ok f e hlv hok => ⟨J, b, ok, fun _ _ => rfl, fun i i1 i2 => absurd i2 (by omega), ⟨hok, ⟨fun z => ⟨z, fun i i1 i2 => absurd i2 (by omega)⟩, fun z => z.1⟩⟩, rfl⟩⟩
  | succ k ih =>
    intro q j l P P' p' l' hj hq hr
    have hcn := t.2.1
    rw [aSums_s] at hr
    by_cases c1 : 0 < q ∧ tkC B n (posT B n j) ≠ bt
    · rw [if_pos c1] at hr
      cases hr
    rw [if_neg c1] at hr
    obtain ⟨j0, ej0, hj0, hj00⟩ : ∃ j0, (if 0 < q then tkE B n (posT B n j) else posT B n j) = posT B n j0 ∧ j0 ≤ c ∧ j0 = if 0 < q then j + 1 else j := by
      by_cases q0 : 0 < q
      · have hj1 := (t.end hj).mpr (by intro w; exact c1 ⟨q0, by rw [w]; exact Ne.symm hbt⟩)
        exact ⟨j + 1, by rw [if_pos q0]; rfl, by omega, by rw [if_pos q0]⟩
      · exact ⟨j, by rw [if_neg q0], hj, by rw [if_neg q0]⟩
    rw [ej0] at hr
    cases e1 : aSum B n 1 8 (posT B n j0) l with
    | inl w =>
      rw [e1] at hr
      cases hr
    | inr y =>
      obtain ⟨p1, l1, g1⟩ := y
      rw [e1] at hr
      try dsimp only at hr
      obtain ⟨j1, a1, a2, a3⟩ := ev_sumJ (d := d) (h := h) (o := o) s t hj0 e1
      subst a2
      obtain ⟨j', b1, b2, b3, b4⟩ := ih (q + 1) j1 l1 _ P' p' l' a1.2 (by omega) hr
      refine ⟨j', ⟨by split at hj00 <;> omega, b1.2⟩, b2, fun i hi => ?_, fun I J lv b ok f e hlv hok => ?_⟩
      · rw [b3 i (by omega), if_neg (by omega)]
      have hv : valP P' q (wsO I) = g1 (wsO I) := by
        unfold valP
        rw [b3 q (by omega), if_pos rfl]
      have eo := e.u (x := ok) (i := 51) (by omega) (by omega) (by omega) (by omega)
      obtain ⟨k1, k2⟩ := a3 (up I 88 51 ok) J lv 0 eo hlv (Or.inl rfl)
      rw [wsO_u (by omega) (by omega)] at k1 k2
      obtain ⟨ok1, eok1⟩ : ∃ ok1 : Int, ok1 = @ite _ (ok = 1 ∧ evB lv 0 (g1 (wsO I)) = 0) (Classical.propDecidable _) 1 0 := ⟨_, rfl⟩
      have hok1 : (ok1 = 0 ∨ ok1 = 1) ∧ (ok1 = 1 ↔ ok = 1 ∧ evB lv 0 (g1 (wsO I)) = 0) := by
        rw [eok1]
        by_cases z : ok = 1 ∧ evB lv 0 (g1 (wsO I)) = 0
        · rw [if_pos z]
          exact ⟨Or.inr rfl, ⟨fun _ => z, fun _ => rfl⟩⟩
        · rw [if_neg z]
          exact ⟨Or.inl rfl, ⟨fun w => absurd w (by decide), fun w => absurd w z⟩⟩
      obtain ⟨J1, eJ1⟩ : ∃ J1, J1 = up J 116 q (evJ lv 0 (g1 (wsO I))) := ⟨_, rfl⟩
      obtain ⟨J', b', ok', r1, r2, ⟨r3, r4⟩, r5⟩ := b4 I J1 lv (evB lv 0 (g1 (wsO I))) ok1 f e hlv hok1.1
      refine ⟨J', b', ok', fun i hi => ?_, fun i i1 i2 => ?_, ⟨r3, ?_⟩, ?_⟩
      · rw [r1 i (by omega), eJ1, up_ni (by omega)]
      · by_cases z : i = q
        · rw [z, r1 q (by omega), eJ1, up_eq, hv]
          exact ⟨rfl, k1⟩
        · exact r2 i (by omega) (by omega)
      · rw [r4, hok1.2, evB_0]
        constructor
        · intro z
          refine ⟨z.1.1, fun i i1 i2 => ?_⟩
          by_cases y : i = q
          · rw [y, hv]
            exact z.1.2
          · exact z.2 i (by omega) (by omega)
        · intro z
          exact ⟨⟨z.1, by rw [← hv]; exact z.2 q (Nat.le_refl _) (by omega)⟩, fun i i1 i2 => z.2 i (by omega) (by omega)⟩
      · have e97 : lp (d + 42) 280 (f + 2 * k + 1 + 1) 97 [some (iR (some 88)), none, some (iI lv), some (iI ((q + (k + 1) : Nat) : Int)), some (iI (q : Int))] [] (st h (evI (up I 88 51 ok) ((o + j0 : Nat) : Int) b) J) = lp (d + 42) 280 (f + 2 * k + 1) 76 [some (iR (some 88)), none, some (iI lv), some (iI ((q + (k + 1) : Nat) : Int)), some (iI ((q + 1 : Nat) : Int))] [] (st h (evI (up I 88 51 ok1) ((o + j1 : Nat) : Int) (evB lv 0 (g1 (wsO I)))) J1) := by
          have w1 : wr ((q : Int) + 1) = ((q + 1 : Nat) : Int) := by rw [wr_id (by omega) (by omega)]; omega
          rw [e_M_goesAlong_97, ypZ (bT_88 s) (by omega) (Or.inl rfl), evI_br, ygR (bT_88 s) (bR_53 s), yck (bT_88 s), k2, kJ_o, xB_s, ysJ (bT_116 s) (by omega) (bL_116 s) (by omega) (by omega), Int.toNat_natCast, ← eJ1, ygI (bT_88 s), evI_ni (by omega) (by omega), up_eq]
          by_cases z : ok = 0
          · have y : ok1 = 0 := by
              rcases hok1.1 with w | w
              · exact w
              · have := (hok1.2.1 w).1
                omega
            rw [if_pos z, ypZ (bT_88 s) (by omega) (Or.inl rfl), evI_o (by omega) (by omega), up_up, w1, y]
          · rw [if_neg z, ygI (bT_88 s), evI_b]
            by_cases y : evB lv 0 (g1 (wsO I)) = 0
            · have u : ok1 = 1 := hok1.2.2 ⟨by omega, y⟩
              rw [if_pos y, ypZ (bT_88 s) (by omega) (Or.inr rfl), evI_o (by omega) (by omega), up_up, w1, u]
            · have u : ok1 = 0 := by
                rcases hok1.1 with w | w
                · exact w
                · exact absurd (hok1.2.1 w).2 y
              rw [if_neg y, ypZ (bT_88 s) (by omega) (Or.inl rfl), evI_o (by omega) (by omega), up_up, w1, u]
        rw [show f + 2 * (k + 1) + 1 = (f + 2 * k + 1 + 1) + 1 by omega, e_M_goesAlong_76, if_pos (by omega)]
        rw [show q + 1 + k = q + (k + 1) by omega] at r5
        by_cases q0 : 0 < q
        · rw [if_pos q0] at hj00
          rw [if_neg (by omega), ygI (bT_88 s), evI_g, ypI (bT_88 s) (by omega), evI_go, wr_id (x := ((o + j : Nat) : Int) + 1) (by have := e.2.1.2.2; omega) (by have := e.2.1.2.2; omega), show ((o + j : Nat) : Int) + 1 = ((o + j0 : Nat) : Int) by omega, e97]
          exact r5
        · rw [if_neg q0] at hj00
          rw [if_pos (by omega), ← hj00, e97]
          exact r5
theorem l_211 (s : ShM h 88) (I J : Nat → Nat → Int) {g : Nat} (hg : g ≤ 100000) {b s0 : Int} (h0 : s0 = 0 ∨ s0 = 1) (f : Nat) : lp (d + 42) 280 (f + 1) 211 [some (iR (some 88)), none, none, none, none] [iI s0, iR (some 88)] (st h (evI I (g : Int) b) J) = some (o0, st h (evI (up I 88 52 (if s0 = 1 ∧ b = 0 then 1 else 0)) ((g + 1 : Nat) : Int) b) J) := by
  have w1 : wr ((g : Int) + 1) = ((g + 1 : Nat) : Int) := by rw [wr_id (by omega) (by omega)]; omega
  rw [e_M_goesAlong_211, ypZ (bT_88 s) (by omega) h0, evI_o (by omega) (by omega), ygI (bT_88 s), evI_ni (by omega) (by omega), up_eq]
  by_cases z : s0 = 0
  · rw [if_pos z, ypZ (bT_88 s) (by omega) (Or.inl rfl), evI_o (by omega) (by omega), up_up, ygI (bT_88 s), evI_g, ypI (bT_88 s) (by omega), evI_go, w1, if_neg (by omega)]
  · rw [if_neg z, ygI (bT_88 s), evI_b]
    by_cases y : b = 0
    · rw [if_pos y, ypZ (bT_88 s) (by omega) (Or.inr rfl), evI_o (by omega) (by omega), up_up, ygI (bT_88 s), evI_g, ypI (bT_88 s) (by omega), evI_go, w1, if_pos ⟨by omega, y⟩]
    · rw [if_neg y, ypZ (bT_88 s) (by omega) (Or.inl rfl), evI_o (by omega) (by omega), up_up, ygI (bT_88 s), evI_g, ypI (bT_88 s) (by omega), evI_go, w1, if_neg (fun w => y w.2)]
theorem ev_ifO (s : ShM h 88) (t : EvT B n c) {j l p' l' : Nat} {P P' : Pls} (hj : j ≤ c) (h3 : P 3 = none) (hr : aIf B n 1 (posT B n j) l P = .inr (p', l', P')) : ∃ j', (j ≤ j' ∧ j' ≤ c) ∧ posT B n j' = p' ∧ (∀ i, i ≠ 3 → P' i = P i) ∧ ∀ (I J : Nat → Nat → Int) (lv : Int) (f : Nat), EvOk B n c o 1 I → (lv = 0 ∨ lv = 1) → ∃ x b' : Int, (lv = 1 → x = if valP P' 3 (wsO I) = 1 then 1 else 0) ∧ ifO d lv (f + 1) (st h (evI I ((o + j : Nat) : Int) 0) J) = some (o0, st h (evI (up I 88 52 x) ((o + (j' + 1) : Nat) : Int) b') J) := by
  have hcn := t.2.1
  unfold aIf at hr
  by_cases c1 : tkC B n (posT B n j) = 279
  · rw [if_pos c1] at hr
    have hj1 := (t.end hj).mpr (by omega)
    cases e1 : aTest B n 1 8 (tkE B n (posT B n j)) l with
    | inl q =>
      rw [e1] at hr
      cases hr
    | inr x =>
      obtain ⟨p1, l1, g1⟩ := x
      rw [e1] at hr
      cases hr
      obtain ⟨j1, a1, a2, a3⟩ := ev_testJ (d := d) (h := h) (o := o) s t (j := j + 1) (by omega) e1
      refine ⟨j1, ⟨by omega, a1.2⟩, a2, fun i hi => if_neg hi, fun I J lv f e hlv => ?_⟩
      have e3 := e.2.1.2.2
      obtain ⟨k1, v, k2, k3, k4⟩ := a3 I J lv 0 e hlv (Or.inl rfl)
      have hv : valP (fun q => if q = 3 then some g1 else P q) 3 (wsO I) = g1 (wsO I) := rfl
      have h211 := l_211 (d := d) s I J (g := o + j1) (by omega) (b := evB lv 0 (g1 (wsO I))) k2 f
      refine ⟨if v = 1 ∧ evB lv 0 (g1 (wsO I)) = 0 then 1 else 0, evB lv 0 (g1 (wsO I)), fun w => ?_, ?_⟩
      rotate_left
      · unfold ifO
        rw [s_passes0 (d := d + 40) s e hj, if_pos ((tr_p76 t (m := 4) (tk := 279) (by simp [trPs])).mpr c1), kI_o, if_neg (by decide), yck (bT_88 s), k4, kI_o]
        rcases k2 with rfl | rfl
        · rw [if_pos rfl, h211]
          rfl
        · rw [if_neg (by decide), h211]
          rfl
      · rw [hv]
        have hB := evB_0 (lv := lv) (v := g1 (wsO I))
        by_cases q : g1 (wsO I) = 1
        · have nb : g1 (wsO I) ≠ BRK := by rw [q]; decide
          have := k3 w rfl nb
          rw [if_pos q, if_pos ⟨by omega, hB.2 fun z => nb z.2⟩]
        · rw [if_neg q, if_neg]
          intro z
          have nb : g1 (wsO I) ≠ BRK := fun y => hB.1 z.2 ⟨w, y⟩
          have := k3 w rfl nb
          omega
  · rw [if_neg c1] at hr
    cases hr
    refine ⟨j, ⟨Nat.le_refl _, hj⟩, rfl, fun _ _ => rfl, fun I J lv f e hlv => ?_⟩
    have e3 := e.2.1.2.2
    have hv : valP P 3 (wsO I) = 1 := by unfold valP; rw [h3]
    have h211 := l_211 (d := d) s I J (g := o + j) (by omega) (b := 0) (s0 := 1) (Or.inr rfl) f
    refine ⟨if (1 : Int) = 1 ∧ (0 : Int) = 0 then 1 else 0, 0, fun w => ?_, ?_⟩
    rotate_left
    · unfold ifO
      rw [s_passes0 (d := d + 40) s e hj, if_neg (fun y => c1 ((tr_p76 t (m := 4) (tk := 279) (by simp [trPs])).mp y)), kI_o, if_pos rfl, h211]
      rfl
    · rw [hv, if_pos ⟨rfl, rfl⟩, if_pos rfl]
theorem ev_tail (s : ShM h 88) (t : EvT B n c) {j l p2 p' l' : Nat} {tm : Int} {P P' : Pls} (hj : j ≤ c) (h3 : P 3 = none) (ht : aTimes B n (posT B n j) = .inr (p2, tm)) (hr : aIf B n 1 p2 l P = .inr (p', l', P')) : ∃ j', (j ≤ j' ∧ j' ≤ c) ∧ posT B n j' = p' ∧ (1 ≤ tm ∧ tm ≤ 20) ∧ (∀ i, i ≠ 3 → P' i = P i) ∧ ∀ (I J : Nat → Nat → Int) (lv b y : Int) (f : Nat), EvOk B n c o 1 I → (lv = 0 ∨ lv = 1) → ∃ x b' : Int, (lv = 1 → x = if valP P' 3 (wsO I) = 1 then 1 else 0) ∧ lp (d + 42) 280 (f + 2) 76 [some (iR (some 88)), none, some (iI lv), some (iI y), some (iI y)] [] (st h (evI I ((o + j : Nat) : Int) b) J) = some (o0, st h (evI (up (up I 88 49 tm) 88 52 x) ((o + (j' + 1) : Nat) : Int) b') J) := by
  have hcn := t.2.1
  unfold aTimes at ht
  by_cases c1 : tkC B n (posT B n j) = 278
  · rw [if_pos c1] at ht
    by_cases c2 : tkC B n (tkE B n (posT B n j)) = 1000 ∧ 1 ≤ tkV B n (tkE B n (posT B n j)) ∧ tkV B n (tkE B n (posT B n j)) ≤ 20
    case neg =>
      rw [if_neg c2] at ht
      cases ht
    rw [if_pos c2] at ht
    have hj1 := (t.end hj).mpr (by omega)
    have hj2 := (t.end (j := j + 1) (by omega)).mpr (by show tkC B n (tkE B n (posT B n j)) ≠ 1001; omega)
    have hvl : vlM B n (posT B n (j + 1)) = tkV B n (posT B n (j + 1)) := by
      have hc2 : 1 ≤ tkV B n (posT B n (j + 1)) ∧ tkV B n (posT B n (j + 1)) ≤ 20 := c2.2
      have := (vl_in (B := B) (n := n) (p := posT B n (j + 1)) (lo := tkV B n (posT B n (j + 1))) (hi := tkV B n (posT B n (j + 1))) (by omega) (by omega)).mpr ⟨Int.le_refl _, Int.le_refl _⟩
      omega
    have eq1 : tkE B n (tkE B n (posT B n j)) = posT B n (j + 2) := rfl
    rw [eq1] at ht
    obtain ⟨rfl, rfl⟩ : posT B n (j + 2) = p2 ∧ tkV B n (posT B n (j + 1)) = tm := by
      cases ht
      exact ⟨rfl, rfl⟩
    obtain ⟨j', a1, a2, a3, a4⟩ := ev_ifO (d := d) (h := h) (o := o) s t (j := j + 2) (by omega) h3 hr
    refine ⟨j', ⟨by omega, a1.2⟩, a2, c2.2, a3, fun I J lv b y f e hlv => ?_⟩
    have e3 := e.2.1.2.2
    have ee := (e.u (i := 49) (x := 1) (by omega) (by omega) (by omega) (by omega))
    obtain ⟨x, b', r1, r2⟩ := a4 (up I 88 49 (tkV B n (posT B n (j + 1)))) J lv f (e.u (by omega) (by omega) (by omega) (by omega)) hlv
    rw [wsO_u (by omega) (by omega)] at r1
    refine ⟨x, b', r1, ?_⟩
    have w1 : wr (((o + (j + 1) : Nat) : Int) + 1) = ((o + (j + 2) : Nat) : Int) := by rw [wr_id (by omega) (by omega)]; omega
    rw [e_M_goesAlong_76, if_neg (by omega), ypI (bT_88 s) (by omega), evI_o (by omega) (by omega), yck (bT_88 s), s_passes0 (d := d + 40) s ee hj, if_pos ((tr_p76 t (m := 27) (tk := 278) (by simp [trPs])).mpr c1), kI_o, if_neg (by decide), ygR (bT_88 s) (bR_2 s), ygI (bT_88 s), evI_g, xB_s, zAI (i := 2994 + (o + (j + 1))) (bT_90 s) (bL_90 s) (by rw [wr_id (by omega) (by omega)]; omega) (by omega), evI_na (by omega), (ee.2.2.1 (j + 1) hj2).2, hvl, ypI (bT_88 s) (by omega), evI_o (by omega) (by omega), up_up, ygI (bT_88 s), evI_g, ypI (bT_88 s) (by omega), evI_go, w1, ypZ (bT_88 s) (by omega) (Or.inl rfl), evI_br, yck (bT_88 s)]
    exact r2
  · rw [if_neg c1] at ht
    obtain ⟨rfl, rfl⟩ : posT B n j = p2 ∧ (1 : Int) = tm := by
      cases ht
      exact ⟨rfl, rfl⟩
    obtain ⟨j', a1, a2, a3, a4⟩ := ev_ifO (d := d) (h := h) (o := o) s t hj h3 hr
    refine ⟨j', a1, a2, by omega, a3, fun I J lv b y f e hlv => ?_⟩
    have e3 := e.2.1.2.2
    have ee := (e.u (i := 49) (x := 1) (by omega) (by omega) (by omega) (by omega))
    obtain ⟨x, b', r1, r2⟩ := a4 (up I 88 49 1) J lv f ee hlv
    rw [wsO_u (by omega) (by omega)] at r1
    refine ⟨x, b', r1, ?_⟩
    rw [e_M_goesAlong_76, if_neg (by omega), ypI (bT_88 s) (by omega), evI_o (by omega) (by omega), yck (bT_88 s), s_passes0 (d := d + 40) s ee hj, if_neg (fun y => c1 ((tr_p76 t (m := 27) (tk := 278) (by simp [trPs])).mp y)), kI_o, if_pos rfl, ypZ (bT_88 s) (by omega) (Or.inl rfl), evI_br, yck (bT_88 s)]
    exact r2
end P98u
