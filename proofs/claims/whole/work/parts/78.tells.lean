/-! What a LAW tells, the reference (by program, wip/whole/gen78.py) -/
def valP (P : Pls) (q : Nat) (ws : Nat → Int) : Int := match P q with
  | none => 1
  | some g => g ws
abbrev hldC (cl : Cls) (kind : Int) (ws : Nat → Int) : Prop := (cl.1 = kind ∧ valP cl.2.2 3 ws = 1) ∧ valP cl.2.2 0 ws ≠ BRK
def clmp (top x : Int) : Int := if x < 0 then 0 else if x ≤ top then x else top
/-- what the last of the first c clauses of a kind tells that holds -/
noncomputable def lastC (CL : Nat → Cls) (ws : Nat → Int) (kind : Int) : Nat → Int
  | 0 => BRK
  | c + 1 => if hldC (CL c) kind ws then valP (CL c).2.2 0 ws else lastC CL ws kind c
noncomputable def toldC (CL : Nat → Cls) (ws : Nat → Int) (kind top wo : Int) : Nat → Int
  | 0 => wo
  | c + 1 => if hldC (CL c) kind ws then clmp top (valP (CL c).2.2 0 ws) else toldC CL ws kind top wo c
theorem toldC_y {CL : Nat → Cls} {ws : Nat → Int} {kind top wo : Int} {c : Nat} (h : hldC (CL c) kind ws) : toldC CL ws kind top wo (c + 1) = clmp top (valP (CL c).2.2 0 ws) := by
  unfold toldC
  rw [if_pos h]
theorem toldC_n {CL : Nat → Cls} {ws : Nat → Int} {kind top wo : Int} {c : Nat} (h : ¬ hldC (CL c) kind ws) : toldC CL ws kind top wo (c + 1) = toldC CL ws kind top wo c := by
  have e : toldC CL ws kind top wo (c + 1) = if hldC (CL c) kind ws then clmp top (valP (CL c).2.2 0 ws) else toldC CL ws kind top wo c := rfl
  rw [e, if_neg h]
theorem lastC_y {CL : Nat → Cls} {ws : Nat → Int} {kind : Int} {c : Nat} (h : hldC (CL c) kind ws) : lastC CL ws kind (c + 1) = valP (CL c).2.2 0 ws := by
  unfold lastC
  rw [if_pos h]
theorem lastC_n {CL : Nat → Cls} {ws : Nat → Int} {kind : Int} {c : Nat} (h : ¬ hldC (CL c) kind ws) : lastC CL ws kind (c + 1) = lastC CL ws kind c := by
  have e : lastC CL ws kind (c + 1) = if hldC (CL c) kind ws then valP (CL c).2.2 0 ws else lastC CL ws kind c := rfl
  rw [e, if_neg h]
theorem toldC_last (CL : Nat → Cls) (ws : Nat → Int) (kind top wo : Int) : ∀ c, toldC CL ws kind top wo c = if lastC CL ws kind c = BRK then wo else clmp top (lastC CL ws kind c)
  | 0 => (if_pos rfl).symm
  | c + 1 => by
    by_cases h : hldC (CL c) kind ws
    · rw [toldC_y h, lastC_y h, if_neg h.2]
    · rw [toldC_n h, lastC_n h]
      exact toldC_last CL ws kind top wo c
theorem toldC_cg {CL CL' : Nat → Cls} {ws : Nat → Int} {kind top wo : Int} : ∀ {c : Nat}, (∀ i, i < c → CL' i = CL i) → toldC CL' ws kind top wo c = toldC CL ws kind top wo c
  | 0, _ => rfl
  | c + 1, e => by
    have ih := toldC_cg (CL := CL) (CL' := CL') (ws := ws) (kind := kind) (top := top) (wo := wo) (c := c) (fun i hi => e i (by omega))
    by_cases h : hldC (CL c) kind ws
    · rw [toldC_y h, toldC_y (by rw [e c (by omega)]; exact h), e c (by omega)]
    · rw [toldC_n h, toldC_n (by rw [e c (by omega)]; exact h), ih]
section P78
variable {d n c o : Nat} {h : IH} {J : Nat → Nat → Int} {B : Nat → Int}
theorem l_150 (s : ShM h 88) (I : Nat → Nat → Int) {g : Nat} (hg : g ≤ 100000) {b : Int} (hd top told cd sm sb s0 : Int) (f : Nat) : ∃ f', f ≤ f' ∧ lp (d + 42) 219 (f + 3) 150 [some (iR (some 88)), some (iI hd), some (iI top), none, some (iJ told), none, some (iI cd), some (iJ sm), none, some (iI sb), none] [iI s0] (st h (evI I (g : Int) b) J) = lp (d + 42) 219 f' 65 [some (iR (some 88)), some (iI hd), some (iI top), none, some (iJ (if cd = hd ∧ s0 ≠ 0 ∧ b = 0 ∧ sb = 0 then clmp top sm else told)), none, none, none, none, none, none] [] (st h (evI I ((g + 1 : Nat) : Int) b) J) := by
  have l203 : ∀ (t : Int) (f : Nat), lp (d + 42) 219 (f + 1) 203 [some (iR (some 88)), some (iI hd), some (iI top), none, some (iJ t), none, none, none, none, none, none] [] (st h (evI I (g : Int) b) J) = lp (d + 42) 219 f 65 [some (iR (some 88)), some (iI hd), some (iI top), none, some (iJ t), none, none, none, none, none, none] [] (st h (evI I ((g + 1 : Nat) : Int) b) J) := fun t f => by
    rw [e_M_tells_203, ygI (bT_88 s), evI_g, ypI (bT_88 s) (by omega), evI_go, wr_id (by omega) (by omega)]
    rfl
  rw [e_M_tells_150]
  by_cases c1 : cd = hd
  case neg => exact ⟨f + 1, by omega, by rw [if_neg c1, l203, if_neg (fun z => c1 z.1)]⟩
  rw [if_pos c1]
  by_cases c2 : s0 = 0
  · exact ⟨f + 1, by omega, by rw [if_pos c2, l203, if_neg (fun z => z.2.1 c2)]⟩
  rw [if_neg c2, ygI (bT_88 s), evI_b]
  by_cases c3 : b = 0
  case neg => exact ⟨f + 1, by omega, by rw [if_neg c3, l203, if_neg (fun z => c3 z.2.2.1)]⟩
  rw [if_pos c3]
  by_cases c4 : sb = 0
  case neg => exact ⟨f + 1, by omega, by rw [if_neg c4, l203, if_neg (fun z => c4 z.2.2.2)]⟩
  have eT : (if cd = hd ∧ s0 ≠ 0 ∧ b = 0 ∧ sb = 0 then clmp top sm else told) = clmp top sm := if_pos ⟨c1, c2, c3, c4⟩
  rw [if_pos c4, eT]
  unfold clmp
  by_cases c5 : sm < 0
  · exact ⟨f + 1, by omega, by rw [if_pos ((lcmp_lt _ _).mpr c5), l203, if_pos c5]⟩
  rw [if_neg (fun z => c5 ((lcmp_lt _ _).mp z)), if_neg c5]
  by_cases c6 : sm ≤ top
  · exact ⟨f, by omega, by rw [if_pos ((lcmp_le _ _).mpr c6), e_M_tells_199, l203, if_pos c6]⟩
  · exact ⟨f + 1, by omega, by rw [if_neg (fun z => c6 ((lcmp_le _ _).mp z)), l203, if_neg c6]⟩
noncomputable def ifT (d : Nat) (hd top told cd sm sb : Int) (f : Nat) (g : IH) : Option IR := kI (rn (d + 42) 208 [iR (some 88), iI 4] g) fun x g1 => if x = 0 then lp (d + 42) 219 f 150 [some (iR (some 88)), some (iI hd), some (iI top), none, some (iJ told), none, some (iI cd), some (iJ sm), none, some (iI sb), none] [iI 1] g1 else xck g1 88 22 <| kI (rn (d + 42) 214 [iR (some 88), iI 1] g1) fun w g2 => if w = 0 then lp (d + 42) 219 f 150 [some (iR (some 88)), some (iI hd), some (iI top), none, some (iJ told), none, some (iI cd), some (iJ sm), none, some (iI sb), none] [iI 0] g2 else lp (d + 42) 219 f 150 [some (iR (some 88)), some (iI hd), some (iI top), none, some (iJ told), none, some (iI cd), some (iJ sm), none, some (iI sb), none] [iI 1] g2
theorem ev_if (s : ShM h 88) (t : EvT B n c) {j l p' l' : Nat} {P P' : Pls} (hj : j ≤ c) (h3 : P 3 = none) (hr : aIf B n 0 (posT B n j) l P = .inr (p', l', P')) : ∃ j', (j ≤ j' ∧ j' ≤ c) ∧ posT B n j' = p' ∧ P' 0 = P 0 ∧ ∀ (I : Nat → Nat → Int) (hd top told cd sm sb : Int) (f : Nat), EvOk B n c o 0 I → ∃ f' b', f ≤ f' ∧ (b' = 0 ∨ b' = 1) ∧ ifT d hd top told cd sm sb (f + 3) (st h (evI I ((o + j : Nat) : Int) 0) J) = lp (d + 42) 219 f' 65 [some (iR (some 88)), some (iI hd), some (iI top), none, some (iJ (if (cd = hd ∧ valP P' 3 (wsL I) = 1) ∧ sb = 0 then clmp top sm else told)), none, none, none, none, none, none] [] (st h (evI I ((o + (j' + 1) : Nat) : Int) b') J) := by
  have hcn := t.2.1
  unfold aIf at hr
  by_cases c1 : tkC B n (posT B n j) = 279
  · rw [if_pos c1] at hr
    have hj1 := (t.end hj).mpr (by omega)
    cases e1 : aTest B n 0 8 (tkE B n (posT B n j)) l with
    | inl q =>
      rw [e1] at hr
      cases hr
    | inr x =>
      obtain ⟨p1, l1, g1⟩ := x
      rw [e1] at hr
      cases hr
      obtain ⟨j1, a1, a2, a3⟩ := ev_testR (d := d) (h := h) (J := J) (o := o) s t (Or.inl rfl) 8 (j + 1) l p' l' g1 (by omega) e1
      refine ⟨j1, ⟨by omega, a1.2⟩, a2, if_neg (by decide), fun I hd top told cd sm sb f e => ?_⟩
      have e3 := e.2.1.2.2
      obtain ⟨k1, v, k2, k3, k4⟩ := a3 I 1 0 e (Or.inr rfl) (Or.inl rfl)
      have hw : wsM 0 I = wsL I := if_pos rfl
      rw [hw] at k1 k3 k4
      have k3 := k3 rfl rfl
      try dsimp only at k4
      have hv : valP (fun q => if q = 3 then some g1 else P q) 3 (wsL I) = g1 (wsL I) := rfl
      unfold ifT
      rw [s_passes0 (d := d + 40) s e hj, if_pos ((tr_p76 t (m := 4) (tk := 279) (by simp [trPs])).mpr c1), kI_o, if_neg (by decide), yck (bT_88 s), k4, kI_o, hv]
      have l150 := fun s0 => l_150 (d := d) (J := J) s I (g := o + j1) (by omega) (b := evB 1 0 (g1 (wsL I))) hd top told cd sm sb s0 f
      by_cases c2 : v = 0
      · obtain ⟨f', m1, m2⟩ := l150 0
        refine ⟨f', evB 1 0 (g1 (wsL I)), m1, evB_01 (Or.inl rfl), ?_⟩
        rw [if_pos c2, m2, if_neg (fun z => z.2.1 rfl), if_neg]
        · rfl
        · intro z
          have := k3 (by rw [z.1.2]; decide)
          omega
      · obtain ⟨f', m1, m2⟩ := l150 1
        refine ⟨f', evB 1 0 (g1 (wsL I)), m1, evB_01 (Or.inl rfl), ?_⟩
        rw [if_neg c2, m2]
        have key : (cd = hd ∧ (1 : Int) ≠ 0 ∧ evB 1 0 (g1 (wsL I)) = 0 ∧ sb = 0) ↔ ((cd = hd ∧ g1 (wsL I) = 1) ∧ sb = 0) := by
          have hB : evB 1 0 (g1 (wsL I)) = 0 ↔ g1 (wsL I) ≠ BRK := by
            unfold evB
            by_cases q : g1 (wsL I) = BRK
            · rw [if_pos ⟨rfl, q⟩]
              exact ⟨fun z => absurd z (by decide), fun z => absurd q z⟩
            · rw [if_neg (fun z => q z.2)]
              exact ⟨fun _ => q, fun _ => rfl⟩
          rw [hB]
          constructor
          · intro z
            have := k3 z.2.2.1
            exact ⟨⟨z.1, by omega⟩, z.2.2.2⟩
          · intro z
            exact ⟨z.1.1, by decide, by rw [z.1.2]; decide, z.2⟩
        by_cases q : (cd = hd ∧ g1 (wsL I) = 1) ∧ sb = 0
        · rw [if_pos q, if_pos (key.mpr q)]
          rfl
        · rw [if_neg q, if_neg (fun z => q (key.mp z))]
          rfl
  · rw [if_neg c1] at hr
    cases hr
    refine ⟨j, ⟨Nat.le_refl _, hj⟩, rfl, rfl, fun I hd top told cd sm sb f e => ?_⟩
    have e3 := e.2.1.2.2
    have hv : valP P 3 (wsL I) = 1 := by unfold valP; rw [h3]
    obtain ⟨f', m1, m2⟩ := l_150 (d := d) (J := J) s I (g := o + j) (by omega) (b := 0) hd top told cd sm sb 1 f
    refine ⟨f', 0, m1, Or.inl rfl, ?_⟩
    unfold ifT
    rw [s_passes0 (d := d + 40) s e hj, if_neg (fun y => c1 ((tr_p76 t (m := 4) (tk := 279) (by simp [trPs])).mp y)), kI_o, if_pos rfl, m2, hv]
    by_cases q : (cd = hd ∧ (1 : Int) = 1) ∧ sb = 0
    · rw [if_pos q, if_pos ⟨q.1.1, by decide, rfl, q.2⟩]
      rfl
    · rw [if_neg q, if_neg (fun z => q ⟨⟨z.1, rfl⟩, z.2.2.2⟩)]
      rfl
/-- a clause of a LAW gone along -/
theorem ev_rule (s : ShM h 88) (t : EvT B n c) {j l p' l' : Nat} {cl : Cls} (hj : j ≤ c) (hr : aClause B n 0 (posT B n j) l = .inr (p', l', cl)) : ∃ j', (j < j' ∧ j' ≤ c) ∧ posT B n j' = p' ∧ ∀ (I : Nat → Nat → Int) (hd top told b : Int) (f : Nat), EvOk B n c o 0 I → ∃ f' b', f ≤ f' ∧ (b' = 0 ∨ b' = 1) ∧ lp (d + 42) 219 (f + 6) 65 [some (iR (some 88)), some (iI hd), some (iI top), none, some (iJ told), none, none, none, none, none, none] [] (st h (evI I ((o + j : Nat) : Int) b) J) = lp (d + 42) 219 f' 65 [some (iR (some 88)), some (iI hd), some (iI top), none, some (iJ (if hldC cl (hd + 3) (wsL I) then clmp top (valP cl.2.2 0 (wsL I)) else told)), none, none, none, none, none, none] [] (st h (evI I ((o + (j' + 1) : Nat) : Int) b') J) := by
  have hcn := t.2.1
  unfold aClause aHead at hr
  rw [if_pos rfl] at hr
  unfold aRule at hr
  -- the head of a clause with a SUM
  have key : ∀ (k : Int) (tk : Nat), ((k = 4 ∧ tk = 269) ∨ (k = 5 ∧ tk = 270)) → tkC B n (posT B n j) = (tk : Int) → (match aHd k (aSums B n 0 1002 1 0 (tkE B n (posT B n j)) l (fun _ => none)) with
      | .inl q => .inl q
      | .inr (p1, l1, k, P) => match aOft B n 0 p1 with
        | .inl q => .inl q
        | .inr (p2, t) => match aIf B n 0 p2 l1 P with
          | .inl q => .inl q
          | .inr (p3, l3, P3) => .inr (p3, l3, k, t, P3) : Sum Int (Nat × Nat × Cls)) = .inr (p', l', cl) → ∃ j', (j < j' ∧ j' ≤ c) ∧ posT B n j' = p' ∧ ∀ (I : Nat → Nat → Int) (hd top told b : Int) (f : Nat), EvOk B n c o 0 I → ∃ f' b', f ≤ f' ∧ (b' = 0 ∨ b' = 1) ∧ lp (d + 42) 219 (f + 6) 65 [some (iR (some 88)), some (iI hd), some (iI top), none, some (iJ told), none, none, none, none, none, none] [] (st h (evI I ((o + j : Nat) : Int) b) J) = lp (d + 42) 219 f' 65 [some (iR (some 88)), some (iI hd), some (iI top), none, some (iJ (if hldC cl (hd + 3) (wsL I) then clmp top (valP cl.2.2 0 (wsL I)) else told)), none, none, none, none, none, none] [] (st h (evI I ((o + (j' + 1) : Nat) : Int) b') J) := by
    intro k tk hkt htk hr
    have hj1 := (t.end hj).mpr (by omega)
    have hcd : cdM B n (posT B n j) = k - 3 := by
      rcases hkt with ⟨y1, y2⟩ | ⟨y1, y2⟩
      · rw [(tr_p76 t (m := 1) (tk := 269) (by simp [trPs])).mpr (by omega)]
        omega
      · rw [(tr_p76 t (m := 2) (tk := 270) (by simp [trPs])).mpr (by omega)]
        omega
    rw [aSums_s, if_neg (by omega), if_neg (by omega)] at hr
    cases e1 : aSum B n 0 8 (tkE B n (posT B n j)) l with
    | inl q =>
      rw [e1] at hr
      cases hr
    | inr x =>
      obtain ⟨p1, l1, g1⟩ := x
      rw [e1] at hr
      try dsimp only at hr
      obtain ⟨j1, a1, a2, a3⟩ := ev_sumR (d := d + 12) (h := h) (J := J) (o := o) s t (Or.inl rfl) 8 (j + 1) l p1 l1 g1 (by omega) e1
      subst a2
      have hr2 : (match aIf B n 0 (posT B n j1) l1 (fun q => if q = 0 then some g1 else none) with
          | .inl q => .inl q
          | .inr (p3, l3, P3) => .inr (p3, l3, k, 1, P3) : Sum Int (Nat × Nat × Cls)) = .inr (p', l', cl) := hr
      cases e2 : aIf B n 0 (posT B n j1) l1 (fun q => if q = 0 then some g1 else none) with
      | inl q =>
        rw [e2] at hr2
        cases hr2
      | inr x =>
        obtain ⟨p3, l3, P3⟩ := x
        rw [e2] at hr2
        cases hr2
        obtain ⟨j2, b1, b2, b3, b4⟩ := ev_if (d := d) (h := h) (J := J) (o := o) s t a1.2 (show (fun q : Nat => if q = 0 then some g1 else none) 3 = none from rfl) e2
        refine ⟨j2, ⟨by omega, b1.2⟩, b2, fun I hd top told b f e => ?_⟩
        have e3 := e.2.1.2.2
        have hw : wsM 0 I = wsL I := if_pos rfl
        obtain ⟨k1, k2⟩ := a3 I 1 0 e (Or.inr rfl) (Or.inl rfl)
        rw [hw] at k1 k2
        try dsimp only at k2
        have hv0 : valP P3 0 (wsL I) = g1 (wsL I) := by
          unfold valP
          rw [b3]
          rfl
        obtain ⟨f', b', m1, m2, m3⟩ := b4 I hd top told (k - 3) (evJ 1 0 (g1 (wsL I))) (evB 1 0 (g1 (wsL I))) (f + 1) e
        refine ⟨f', b', by omega, m2, ?_⟩
        have w1 : wr (((o + j : Nat) : Int) + 1) = ((o + (j + 1) : Nat) : Int) := by rw [wr_id (by omega) (by omega)]; omega
        rw [e_M_tells_65, ygI (bT_88 s), evI_g, ygI (bT_88 s), evI_ni (by omega) (by omega), e.2.1.1, if_pos (by omega), ygI (bT_88 s), evI_g, yck (bT_88 s), s_codeAt (d := d + 41) s e hj, kI_o, ypZ (bT_88 s) (by omega) (Or.inl rfl), evI_br, ygI (bT_88 s), evI_g, ypI (bT_88 s) (by omega), evI_go, w1, hcd, if_neg (by omega), e_M_tells_111, yck (bT_88 s), k2, kJ_o, ygI (bT_88 s), evI_b, ypZ (bT_88 s) (by omega) (Or.inl rfl), evI_br, yck (bT_88 s)]
        show ifT d hd top told (k - 3) (evJ 1 0 (g1 (wsL I))) (evB 1 0 (g1 (wsL I))) (f + 1 + 3) (st h (evI I ((o + j1 : Nat) : Int) 0) J) = _
        rw [m3]
        have hB : evB 1 0 (g1 (wsL I)) = 0 ↔ g1 (wsL I) ≠ BRK := by
          unfold evB
          by_cases q : g1 (wsL I) = BRK
          · rw [if_pos ⟨rfl, q⟩]
            exact ⟨fun z => absurd z (by decide), fun z => absurd q z⟩
          · rw [if_neg (fun z => q z.2)]
            exact ⟨fun _ => q, fun _ => rfl⟩
        by_cases q : hldC (k, 1, P3) (hd + 3) (wsL I)
        · have q1 : k = hd + 3 := q.1.1
          have q2 : valP P3 3 (wsL I) = 1 := q.1.2
          have q3 : valP P3 0 (wsL I) ≠ BRK := q.2
          rw [hv0] at q3
          have ej : evJ 1 0 (g1 (wsL I)) = g1 (wsL I) := if_neg (fun y => y.elim (by decide) fun y => y.elim (by decide) q3)
          rw [if_pos q, if_pos ⟨⟨by omega, q2⟩, hB.mpr q3⟩, ej]
          show _ = lp (d + 42) 219 f' 65 [some (iR (some 88)), some (iI hd), some (iI top), none, some (iJ (clmp top (valP P3 0 (wsL I)))), none, none, none, none, none, none] [] _
          rw [hv0]
        · rw [if_neg q, if_neg (fun y => q ⟨⟨by show k = hd + 3; omega, y.1.2⟩, by show valP P3 0 (wsL I) ≠ BRK; rw [hv0]; exact hB.mp y.2⟩)]
  by_cases c1 : tkC B n (posT B n j) = 269
  · rw [if_pos c1] at hr
    exact key 4 269 (Or.inl ⟨rfl, rfl⟩) c1 hr
  rw [if_neg c1] at hr
  by_cases c2 : tkC B n (posT B n j) = 270
  · rw [if_pos c2] at hr
    exact key 5 270 (Or.inr ⟨rfl, rfl⟩) c2 hr
  rw [if_neg c2] at hr
  by_cases c3 : tkC B n (posT B n j) = 271
  · rw [if_pos c3] at hr
    have hj1 := (t.end hj).mpr (by omega)
    have hcd : cdM B n (posT B n j) = 3 := (tr_p76 t (m := 3) (tk := 271) (by simp [trPs])).mpr c3
    have hr2 : (match aIf B n 0 (posT B n (j + 1)) l (fun _ => none) with
        | .inl q => .inl q
        | .inr (p3, l3, P3) => .inr (p3, l3, 6, 1, P3) : Sum Int (Nat × Nat × Cls)) = .inr (p', l', cl) := hr
    cases e2 : aIf B n 0 (posT B n (j + 1)) l (fun _ => none) with
    | inl q =>
      rw [e2] at hr2
      cases hr2
    | inr x =>
      obtain ⟨p3, l3, P3⟩ := x
      rw [e2] at hr2
      cases hr2
      obtain ⟨j2, b1, b2, b3, b4⟩ := ev_if (d := d) (h := h) (J := J) (o := o) s t (show j + 1 ≤ c by omega) rfl e2
      refine ⟨j2, ⟨by omega, b1.2⟩, b2, fun I hd top told b f e => ?_⟩
      have e3 := e.2.1.2.2
      have hv0 : valP P3 0 (wsL I) = 1 := by
        unfold valP
        rw [b3]
      obtain ⟨f', b', m1, m2, m3⟩ := b4 I hd top told 3 1 0 (f + 2) e
      refine ⟨f', b', by omega, m2, ?_⟩
      have w1 : wr (((o + j : Nat) : Int) + 1) = ((o + (j + 1) : Nat) : Int) := by rw [wr_id (by omega) (by omega)]; omega
      rw [e_M_tells_65, ygI (bT_88 s), evI_g, ygI (bT_88 s), evI_ni (by omega) (by omega), e.2.1.1, if_pos (by omega), ygI (bT_88 s), evI_g, yck (bT_88 s), s_codeAt (d := d + 41) s e hj, kI_o, ypZ (bT_88 s) (by omega) (Or.inl rfl), evI_br, ygI (bT_88 s), evI_g, ypI (bT_88 s) (by omega), evI_go, w1, hcd, if_pos rfl, ygI (bT_88 s), evI_b, ypZ (bT_88 s) (by omega) (Or.inl rfl), evI_br, yck (bT_88 s)]
      show ifT d hd top told 3 1 0 (f + 2 + 3) (st h (evI I ((o + (j + 1) : Nat) : Int) 0) J) = _
      rw [m3]
      by_cases q : hldC (6, 1, P3) (hd + 3) (wsL I)
      · have q1 : (6 : Int) = hd + 3 := q.1.1
        have q2 : valP P3 3 (wsL I) = 1 := q.1.2
        rw [if_pos q, if_pos ⟨⟨by omega, q2⟩, rfl⟩]
        show _ = lp (d + 42) 219 f' 65 [some (iR (some 88)), some (iI hd), some (iI top), none, some (iJ (clmp top (valP P3 0 (wsL I)))), none, none, none, none, none, none] [] _
        rw [hv0]
      · rw [if_neg q, if_neg (fun y => q ⟨⟨by show (6 : Int) = hd + 3; omega, y.1.2⟩, by show valP P3 0 (wsL I) ≠ BRK; rw [hv0]; decide⟩)]
  · rw [if_neg c3] at hr
    cases hr
theorem ev_text (s : ShM h 88) (t : EvT B n c) : ∀ (k cc j l cf : Nat) (CL0 CL : Nat → Cls), n - posT B n j ≤ k → j ≤ c → aTextL B n 0 k cc (posT B n j) l CL0 = .inr (cf, CL) → (cc ≤ cf ∧ ∀ i, i < cc → CL i = CL0 i) ∧ ∀ (I : Nat → Nat → Int) (hd top wo b : Int) (f : Nat), EvOk B n c o 0 I → (b = 0 ∨ b = 1) → bdd wo → (0 ≤ top ∧ top ≤ 99) → ∃ b', (b' = 0 ∨ b' = 1) ∧ lp (d + 42) 219 (6 * k + 1 + f) 65 [some (iR (some 88)), some (iI hd), some (iI top), none, some (iJ (toldC CL0 (wsL I) (hd + 3) top wo cc)), none, none, none, none, none, none] [] (st h (evI I ((o + (j + 1) : Nat) : Int) b) J) = some (oI (toldC CL (wsL I) (hd + 3) top wo cf), st h (evI I ((o + (c + 1) : Nat) : Int) b') J) := by
  intro k
  have tb : ∀ (CL : Nat → Cls) (ws : Nat → Int) (kd top wo : Int) (cc : Nat), bdd wo → (0 ≤ top ∧ top ≤ 99) → bdd (toldC CL ws kd top wo cc) := by
    intro CL ws kd top wo cc hwo htop
    rw [toldC_last]
    unfold clmp
    unfold bdd at hwo ⊢
    (repeat' split) <;> omega
  have fin : ∀ (j : Nat) (CL0 : Nat → Cls) (cc : Nat), j = c → ∀ (I : Nat → Nat → Int) (hd top wo b : Int) (f : Nat), EvOk B n c o 0 I → (b = 0 ∨ b = 1) → bdd wo → (0 ≤ top ∧ top ≤ 99) → lp (d + 42) 219 (f + 1) 65 [some (iR (some 88)), some (iI hd), some (iI top), none, some (iJ (toldC CL0 (wsL I) (hd + 3) top wo cc)), none, none, none, none, none, none] [] (st h (evI I ((o + (j + 1) : Nat) : Int) b) J) = some (oI (toldC CL0 (wsL I) (hd + 3) top wo cc), st h (evI I ((o + (c + 1) : Nat) : Int) b) J) := by
    intro j CL0 cc hj I hd top wo b f e hb hwo htop
    subst hj
    have := tb CL0 (wsL I) (hd + 3) top wo cc hwo htop
    unfold bdd at this
    rw [e_M_tells_65, ygI (bT_88 s), evI_g, ygI (bT_88 s), evI_ni (by omega) (by omega), e.2.1.1, if_neg (by omega), wr_id (by omega) (by omega)]
  induction k with
  | zero =>
    intro cc j l cf CL0 CL hk hj hr
    have hr2 : (Sum.inr (cc, CL0) : Sum Int (Nat × (Nat → Cls))) = .inr (cf, CL) := hr
    cases hr2
    have hp := posT_le (B := B) (n := n) j
    have hpn : ¬ (tkC B n (posT B n j) ≠ 1001) := fun q => by
      have := tkE_lt hp q
      omega
    have hc : tkC B n (posT B n j) = 1001 := Decidable.not_not.mp hpn
    have hjc : j = c := by
      have := (t.end hj).mp
      by_cases q : j < c
      · exact absurd hc (this q)
      · omega
    refine ⟨⟨Nat.le_refl _, fun _ _ => rfl⟩, fun I hd top wo b f e hb hwo htop => ⟨b, hb, ?_⟩⟩
    rw [show 6 * 0 + 1 + f = f + 1 by omega]
    exact fin j CL0 cc hjc I hd top wo b f e hb hwo htop
  | succ k ih =>
    intro cc j l cf CL0 CL hk hj hr
    unfold aTextL at hr
    by_cases c1 : tkC B n (posT B n j) = 59
    · rw [if_pos c1] at hr
      by_cases c2 : 12 ≤ cc
      · rw [if_pos c2] at hr
        cases hr
      rw [if_neg c2] at hr
      have hj1 := (t.end hj).mpr (by omega)
      have hp := tkE_lt (posT_le (B := B) (n := n) j) (show tkC B n (posT B n j) ≠ 1001 by omega)
      cases e1 : aClause B n 0 (tkE B n (posT B n j)) l with
      | inl q =>
        rw [e1] at hr
        cases hr
      | inr x =>
        obtain ⟨p1, l1, cl⟩ := x
        rw [e1] at hr
        obtain ⟨j1, a1, a2, a3⟩ := ev_rule (d := d) (h := h) (J := J) (o := o) s t (show j + 1 ≤ c by omega) e1
        subst a2
        have hmono : posT B n (j + 1) ≤ posT B n j1 := by
          have := posT_mono (B := B) (n := n) (i := j + 1) (j1 - (j + 1))
          rwa [show j + 1 + (j1 - (j + 1)) = j1 by omega] at this
        have he : posT B n (j + 1) = tkE B n (posT B n j) := rfl
        obtain ⟨⟨b1, b2⟩, b3⟩ := ih (cc + 1) j1 l1 cf (fun jj => if jj = cc then cl else CL0 jj) CL (by omega) a1.2 hr
        refine ⟨⟨by omega, fun i hi => by rw [b2 i (by omega), if_neg (by omega)]⟩, fun I hd top wo b f e hb hwo htop => ?_⟩
        obtain ⟨f', b', m1, m2, m3⟩ := a3 I hd top (toldC CL0 (wsL I) (hd + 3) top wo cc) b (6 * k + 1 + f) e
        obtain ⟨f2, rfl⟩ : ∃ q, f' = 6 * k + 1 + q := ⟨f' - (6 * k + 1), by omega⟩
        obtain ⟨b'', q1, q2⟩ := b3 I hd top wo b' f2 e m2 hwo htop
        refine ⟨b'', q1, ?_⟩
        rw [show 6 * (k + 1) + 1 + f = 6 * k + 1 + f + 6 by omega, m3, ← q2]
        have eC : toldC (fun jj => if jj = cc then cl else CL0 jj) (wsL I) (hd + 3) top wo cc = toldC CL0 (wsL I) (hd + 3) top wo cc := toldC_cg fun i hi => if_neg (by omega)
        have ecl : (if cc = cc then cl else CL0 cc) = cl := if_pos rfl
        by_cases q : hldC cl (hd + 3) (wsL I)
        · have e1 : toldC (fun jj => if jj = cc then cl else CL0 jj) (wsL I) (hd + 3) top wo (cc + 1) = clmp top (valP cl.2.2 0 (wsL I)) := by
            have := toldC_y (CL := fun jj => if jj = cc then cl else CL0 jj) (ws := wsL I) (kind := hd + 3) (top := top) (wo := wo) (c := cc) (by show hldC (if cc = cc then cl else CL0 cc) _ _; rw [ecl]; exact q)
            rw [this]
            show clmp top (valP (if cc = cc then cl else CL0 cc).2.2 0 (wsL I)) = _
            rw [ecl]
          rw [if_pos q, e1]
        · have e1 : toldC (fun jj => if jj = cc then cl else CL0 jj) (wsL I) (hd + 3) top wo (cc + 1) = toldC CL0 (wsL I) (hd + 3) top wo cc := by
            have := toldC_n (CL := fun jj => if jj = cc then cl else CL0 jj) (ws := wsL I) (kind := hd + 3) (top := top) (wo := wo) (c := cc) (by show ¬ hldC (if cc = cc then cl else CL0 cc) _ _; rw [ecl]; exact q)
            rw [this, eC]
          rw [if_neg q, e1]
    · rw [if_neg c1] at hr
      by_cases c2 : tkC B n (posT B n j) = 1001
      · rw [if_pos c2] at hr
        cases hr
        have hjc : j = c := by
          have := (t.end hj).mp
          by_cases q : j < c
          · exact absurd c2 (this q)
          · omega
        refine ⟨⟨Nat.le_refl _, fun _ _ => rfl⟩, fun I hd top wo b f e hb hwo htop => ⟨b, hb, ?_⟩⟩
        rw [show 6 * (k + 1) + 1 + f = (6 * k + 6 + f) + 1 by omega]
        exact fin j CL0 cc hjc I hd top wo b _ e hb hwo htop
      · rw [if_neg c2] at hr
        cases hr
end P78
