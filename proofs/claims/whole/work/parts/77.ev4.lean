/-! The reference tells what comparings mean; TESTS to any depth (by program, wip/whole/gen77.py) -/
def aPos (B : Nat → Int) (n : Nat) (tst : Option (Nat → Nat → RdR)) (sum : Nat → Nat → RdR) (p l : Nat) : RdR := match tst with
  | none => aCmp B n sum p l
  | some ti => if tkC B n p = 40 then aClose B n 41 (ti (tkE B n p) l) else aCmp B n sum p l
theorem aPlain_e (B : Nat → Int) (n : Nat) (tst : Option (Nat → Nat → RdR)) (sum : Nat → Nat → RdR) (p l : Nat) : aPlain B n tst sum p l = aNegR (aNot B n (n - p) p false).2 (aPos B n tst sum (aNot B n (n - p) p false).1 l) := by
  unfold aPlain aPos
  cases tst <;> rfl
theorem aLeaf_40e {B : Nat → Int} {n : Nat} {ord : Int} {p l : Nat} (hc : tkC B n p = 40) : aLeaf B n ord p l = .inl (tkF B n p) := by
  unfold aLeaf
  by_cases c0 : 50 ≤ l
  · rw [if_pos c0]
  rw [if_neg c0, if_neg (by omega)]
  by_cases c1 : ord = 0
  · rw [if_pos c1, if_neg (by omega)]
  · rw [if_neg c1, hc, if_pos (by decide)]
theorem aSum_40e {B : Nat → Int} {n : Nat} {ord : Int} {p l r : Nat} {x : Nat × Nat × Mng} (h : aSum B n ord r p l = .inr x) : tkC B n p ≠ 40 := by
  intro hc
  have e0 : ∀ br, aPart B n ord br p l = .inl (tkF B n p) := fun br => by
    unfold aPart
    cases br with
    | none => exact aLeaf_40e hc
    | some inn =>
      try dsimp only
      rw [if_neg (by omega)]
      exact aLeaf_40e hc
  have e1 : ∀ op it, it p l = .inl (tkF B n p) → rwRows B n op it p l = .inl (tkF B n p) := fun op it h => by
    unfold rwRows
    rw [h]
  cases r with
  | zero =>
    have := e1 opS _ (e1 opT _ (e0 none))
    have h2 : aSum B n ord 0 p l = .inl (tkF B n p) := this
    rw [h2] at h
    cases h
  | succ r =>
    have := e1 opS _ (e1 opT _ (e0 (some (aSum B n ord r))))
    have h2 : aSum B n ord (r + 1) p l = .inl (tkF B n p) := this
    rw [h2] at h
    cases h
section P77
variable {d n c o : Nat} {h : IH} {J : Nat → Nat → Int} {B : Nat → Int} {ord : Int}
theorem comb_cmp {op x y : Int} (hop : 7 ≤ op ∧ op ≤ 9) : comb op x y = if op = 7 then (if x < y then 1 else 0) else if op = 8 then (if x ≤ y then 0 else 1) else (if x = y then 1 else 0) := by
  have e : combV op x y = if op = 7 then (if x < y then 1 else 0) else if op = 8 then (if x ≤ y then 0 else 1) else (if x = y then 1 else 0) := by
    unfold combV
    rw [if_neg (by omega), if_neg (by omega), if_neg (by omega), if_neg (by omega), if_neg (by omega)]
  have h01 : combV op x y = 0 ∨ combV op x y = 1 := by
    rw [e]
    (repeat' split) <;> omega
  unfold comb
  rw [if_neg (by omega), ← e]
  rcases h01 with h | h <;> rw [h] <;> rfl
theorem evB_cmp {op : Int} (hop : 7 ≤ op ∧ op ≤ 9) (f g : Mng) (ws : Nat → Int) (lv b : Int) : evB lv (evB lv b (f ws)) (g ws) = evB lv b (binF op f g ws) := by
  by_cases q0 : lv = 1
  · subst q0
    by_cases q1 : f ws = BRK
    · have a1 : evB 1 b (f ws) = 1 := if_pos ⟨rfl, q1⟩
      have a2 : binF op f g ws = BRK := if_pos q1
      have a3 : evB 1 b BRK = 1 := if_pos ⟨rfl, rfl⟩
      rw [a1, a2, a3]
      unfold evB
      split <;> rfl
    · have a1 : evB 1 b (f ws) = b := if_neg fun z => q1 z.2
      by_cases q2 : g ws = BRK
      · have a2 : binF op f g ws = BRK := by unfold binF; rw [if_neg q1, if_pos q2]
        rw [a1, a2, q2]
      · have a2 : binF op f g ws = comb op (f ws) (g ws) := by unfold binF; rw [if_neg q1, if_neg q2]
        have a3 : evB 1 b (g ws) = b := if_neg fun z => q2 z.2
        have a4 : evB 1 b (comb op (f ws) (g ws)) = b := if_neg fun z => by
          have := comb_01 hop (f ws) (g ws)
          rw [z.2] at this
          exact absurd this (by decide)
        rw [a1, a3, a2, a4]
  · have a : ∀ b x, evB lv b x = b := fun b x => if_neg fun z => q0 z.1
    rw [a, a, a]
theorem ev_cmp (s : ShM h 88) (t : EvT B n c) {sum : Nat → Nat → RdR} (h40 : ∀ p l x, sum p l = .inr x → tkC B n p ≠ 40) (z : EvQ h J B n c o ord (fun lv g => rn (d + 6) 210 [iR (some 88), iI lv] g) sum) : EvW h J B n c o ord (fun lv g => rn (d + 7) 217 [iR (some 88), iI lv] g) (aCmp B n sum) := by
  intro j l p' l' g hj hr
  have hcn := t.2.1
  unfold aCmp at hr
  cases e1 : sum (posT B n j) l with
  | inl q =>
    rw [e1] at hr
    cases hr
  | inr x =>
    have h41 := h40 _ _ _ e1
    obtain ⟨p1, l1, f1⟩ := x
    rw [e1] at hr
    obtain ⟨j1, a1, a2, a3⟩ := z j l p1 l1 f1 hj e1
    subst a2
    try dsimp only at hr
    by_cases c1 : tkC B n (posT B n j1) = 60 ∨ tkC B n (posT B n j1) = 62 ∨ tkC B n (posT B n j1) = 61
    · rw [if_pos c1] at hr
      have hj1 := (t.end a1.2).mpr (by omega)
      cases e2 : sum (tkE B n (posT B n j1)) l1 with
      | inl q =>
        rw [e2] at hr
        cases hr
      | inr x =>
        obtain ⟨p2, l2, f2⟩ := x
        rw [e2] at hr
        cases hr
        obtain ⟨j2, b1, b2, b3⟩ := z (j1 + 1) l1 p' l' f2 (by omega) e2
        subst b2
        refine ⟨j2, ⟨by omega, b1.2⟩, rfl, fun I lv b e hlv hb => ?_⟩
        have e3 := e.2.1.2.2
        obtain ⟨k1, k2⟩ := a3 I lv b e hlv hb
        obtain ⟨m1, m2⟩ := b3 I lv (evB lv b (f1 (wsM ord I))) e hlv (evB_01 hb)
        have hop := opC_in (tkC B n (posT B n j1))
        have eB := evB_cmp hop f1 f2 (wsM ord I) lv b
        refine ⟨isTst_bin hop f1 f2 _, ?_⟩
        try dsimp only at k2 m2 ⊢
        have w1 : wr (((o + j1 : Nat) : Int) + 1) = ((o + (j1 + 1) : Nat) : Int) := by rw [wr_id (by omega) (by omega)]; omega
        rw [r_M_positiveOf, e_M_positiveOf, s_signM (d := d + 5) _ (by omega), kI_o, yck (bT_88 s), s_passes0 (d := d + 4) s e hj, if_neg (fun y => h41 ((tr_sign t.1 (c := 40) (by omega)).mp y)), kI_o, if_pos rfl, yck (bT_88 s), k2, kJ_o, ygI (bT_88 s), evI_g, yck (bT_88 s), s_codeAt (d := d + 5) s e a1.2, kI_o, ygI (bT_88 s), evI_g, ypI (bT_88 s) (by omega), evI_go, w1, yck (bT_88 s), m2, kJ_o, eB]
        by_cases q0 : lv = 0
        · rw [if_pos q0, xZ_0]
          exact ⟨0, Or.inl rfl, fun y => absurd y (by omega), rfl⟩
        rw [if_neg q0, ygI (bT_88 s), evI_b]
        by_cases q1 : evB lv b (binF (opC (tkC B n (posT B n j1))) f1 f2 (wsM ord I)) = 0
        case neg =>
          rw [if_neg q1, xZ_0]
          refine ⟨0, Or.inl rfl, fun y1 y2 y3 => ?_, rfl⟩
          exfalso
          apply q1
          unfold evB
          rw [if_neg (fun y => y3 y.2), y2]
        rw [if_pos q1, s_signM (d := d + 5) _ (by omega), kI_o]
        have l121 : ∀ g : IH, lp (d + 6) 217 999999 121 [none, none, none, none, none, none, none] [] g = some (oI 1, g) := fun g => by
          show lp (d + 6) 217 (999998 + 1) 121 [none, none, none, none, none, none, none] [] g = _
          rw [e_M_positiveOf_121, xZ_1]
        have val : lv = 1 → b = 0 → binF (opC (tkC B n (posT B n j1))) f1 f2 (wsM ord I) ≠ BRK → binF (opC (tkC B n (posT B n j1))) f1 f2 (wsM ord I) = (if opC (tkC B n (posT B n j1)) = 7 then (if evJ lv b (f1 (wsM ord I)) < evJ lv (evB lv b (f1 (wsM ord I))) (f2 (wsM ord I)) then 1 else 0) else if opC (tkC B n (posT B n j1)) = 8 then (if evJ lv b (f1 (wsM ord I)) ≤ evJ lv (evB lv b (f1 (wsM ord I))) (f2 (wsM ord I)) then 0 else 1) else (if evJ lv b (f1 (wsM ord I)) = evJ lv (evB lv b (f1 (wsM ord I))) (f2 (wsM ord I)) then 1 else 0)) := by
          intro y1 y2 y3
          subst y1
          subst y2
          have n1 : f1 (wsM ord I) ≠ BRK := fun q => y3 (if_pos q)
          have n2 : f2 (wsM ord I) ≠ BRK := fun q => y3 (by unfold binF; rw [if_neg n1, if_pos q])
          have v1 : evB 1 0 (f1 (wsM ord I)) = 0 := if_neg fun y => n1 y.2
          have v2 : ∀ x : Int, x ≠ BRK → evJ 1 0 x = x := fun x hx => if_neg (fun y => y.elim (by decide) fun y => y.elim (by decide) hx)
          rw [v1, v2 _ n1, v2 _ n2, ← comb_cmp hop]
          unfold binF
          rw [if_neg n1, if_neg n2]
        by_cases d1 : tkC B n (posT B n j1) = 60
        · have o7 : opC (tkC B n (posT B n j1)) = 7 := if_pos d1
          rw [o7, if_pos rfl] at val
          rw [if_pos ((tr_sign t.1 (c := 60) (by omega)).mpr d1)]
          by_cases d2 : evJ lv b (f1 (wsM ord I)) < evJ lv (evB lv b (f1 (wsM ord I))) (f2 (wsM ord I))
          · rw [if_pos d2] at val
            rw [if_pos ((lcmp_lt _ _).mpr d2), l121, o7]
            exact ⟨1, Or.inr rfl, fun y1 y2 y3 => (val y1 y2 y3).symm, rfl⟩
          · rw [if_neg d2] at val
            rw [if_neg (fun y => d2 ((lcmp_lt _ _).mp y)), xZ_0, o7]
            exact ⟨0, Or.inl rfl, fun y1 y2 y3 => (val y1 y2 y3).symm, rfl⟩
        rw [if_neg (fun y => d1 ((tr_sign t.1 (c := 60) (by omega)).mp y)), s_signM (d := d + 5) _ (by omega), kI_o]
        by_cases d3 : tkC B n (posT B n j1) = 62
        · have o7 : opC (tkC B n (posT B n j1)) = 8 := by unfold opC; rw [if_neg d1, if_pos d3]
          rw [o7, if_neg (by decide), if_pos rfl] at val
          rw [if_pos ((tr_sign t.1 (c := 62) (by omega)).mpr d3)]
          by_cases d2 : evJ lv b (f1 (wsM ord I)) ≤ evJ lv (evB lv b (f1 (wsM ord I))) (f2 (wsM ord I))
          · rw [if_pos d2] at val
            rw [if_pos ((lcmp_le _ _).mpr d2), xZ_0, o7]
            exact ⟨0, Or.inl rfl, fun y1 y2 y3 => (val y1 y2 y3).symm, rfl⟩
          · rw [if_neg d2] at val
            rw [if_neg (fun y => d2 ((lcmp_le _ _).mp y)), l121, o7]
            exact ⟨1, Or.inr rfl, fun y1 y2 y3 => (val y1 y2 y3).symm, rfl⟩
        · have o7 : opC (tkC B n (posT B n j1)) = 9 := by unfold opC; rw [if_neg d1, if_neg d3]
          have lz : ∀ x y : Int, lcmp x y = 0 ↔ x = y := fun x y => by
            unfold lcmp
            (repeat' split) <;> omega
          rw [o7, if_neg (by decide), if_neg (by decide)] at val
          rw [if_neg (fun y => d3 ((tr_sign t.1 (c := 62) (by omega)).mp y))]
          by_cases d2 : evJ lv b (f1 (wsM ord I)) = evJ lv (evB lv b (f1 (wsM ord I))) (f2 (wsM ord I))
          · rw [if_pos d2] at val
            rw [if_pos ((lz _ _).mpr d2), l121, o7]
            exact ⟨1, Or.inr rfl, fun y1 y2 y3 => (val y1 y2 y3).symm, rfl⟩
          · rw [if_neg d2] at val
            rw [if_neg (fun y => d2 ((lz _ _).mp y)), xZ_0, o7]
            exact ⟨0, Or.inl rfl, fun y1 y2 y3 => (val y1 y2 y3).symm, rfl⟩
    · rw [if_neg c1] at hr
      cases hr
theorem ev_pos0 (s : ShM h 88) (t : EvT B n c) {sum : Nat → Nat → RdR} (h40 : ∀ p l x, sum p l = .inr x → tkC B n p ≠ 40) (z : EvQ h J B n c o ord (fun lv g => rn (d + 6) 210 [iR (some 88), iI lv] g) sum) : EvW h J B n c o ord (fun lv g => rn (d + 7) 217 [iR (some 88), iI lv] g) (aPos B n none sum) :=
  fun j l p' l' g hj hr => ev_cmp s t h40 z j l p' l' g hj hr
theorem ev_pos1 (s : ShM h 88) (t : EvT B n c) {sum ti : Nat → Nat → RdR} (h40 : ∀ p l x, sum p l = .inr x → tkC B n p ≠ 40) (z : EvQ h J B n c o ord (fun lv g => rn (d + 6) 210 [iR (some 88), iI lv] g) sum) (zt : EvW h J B n c o ord (fun lv g => rn (d + 6) 214 [iR (some 88), iI lv] g) ti) : EvW h J B n c o ord (fun lv g => rn (d + 7) 217 [iR (some 88), iI lv] g) (aPos B n (some ti) sum) := by
  intro j l p' l' g hj hr
  have hcn := t.2.1
  unfold aPos at hr
  try dsimp only at hr
  by_cases c1 : tkC B n (posT B n j) = 40
  · rw [if_pos c1] at hr
    have hj1 := (t.end hj).mpr (by omega)
    cases e1 : ti (tkE B n (posT B n j)) l with
    | inl q =>
      rw [e1] at hr
      cases hr
    | inr x =>
      obtain ⟨p1, l1, g1⟩ := x
      rw [e1] at hr
      obtain ⟨j1, a1, a2, a3⟩ := zt (j + 1) l p1 l1 g1 (by omega) e1
      subst a2
      unfold aClose at hr
      try dsimp only at hr
      by_cases c2 : tkC B n (posT B n j1) = 41
      · rw [if_pos c2] at hr
        cases hr
        have hj2 := (t.end a1.2).mpr (by omega)
        refine ⟨j1 + 1, ⟨by omega, by omega⟩, rfl, fun I lv b e hlv hb => ?_⟩
        have e3 := e.2.1.2.2
        obtain ⟨q1, v, q2, q3, q4⟩ := a3 I lv b e hlv hb
        refine ⟨q1, v, q2, q3, ?_⟩
        try dsimp only at q4 ⊢
        rw [r_M_positiveOf, e_M_positiveOf, s_signM (d := d + 5) _ (by omega), kI_o, yck (bT_88 s), s_passes0 (d := d + 4) s e hj, if_pos ((tr_sign t.1 (c := 40) (by omega)).mpr c1), kI_o, if_neg (by decide), yck (bT_88 s), q4, kI_o, ygI (bT_88 s), evI_g, ypI (bT_88 s) (by omega), evI_go, wr_id (by omega) (by omega), xZ_ok q2]
        rfl
      · rw [if_neg c2] at hr
        cases hr
  · rw [if_neg c1] at hr
    exact ev_cmp s t h40 z j l p' l' g hj hr
theorem ev_not (s : ShM h 88) (t : EvT B n c) : ∀ (k j : Nat) (tb : Bool), n - posT B n j ≤ k → j ≤ c → ∃ j1, (j ≤ j1 ∧ j1 ≤ c) ∧ (aNot B n k (posT B n j) tb).1 = posT B n j1 ∧ tkC B n (posT B n j1) ≠ 282 ∧ ∀ (I : Nat → Nat → Int) (lv b : Int) (fu : Nat), EvOk B n c o ord I → ∃ fu', lp (d + 7) 216 (fu + k + 1) 2 [some (iR (some 88)), some (iI lv), some (iI (b2i tb))] [] (st h (evI I ((o + j : Nat) : Int) b) J) = lp (d + 7) 216 (fu' + 1) 2 [some (iR (some 88)), some (iI lv), some (iI (b2i (aNot B n k (posT B n j) tb).2))] [] (st h (evI I ((o + j1 : Nat) : Int) b) J) := by
  intro k
  induction k with
  | zero =>
    intro j tb hk hj
    have hp := posT_le (B := B) (n := n) j
    have hpn : ¬ (tkC B n (posT B n j) ≠ 1001) := fun q => by
      have := tkE_lt hp q
      omega
    have hc : tkC B n (posT B n j) = 1001 := Decidable.not_not.mp hpn
    exact ⟨j, ⟨Nat.le_refl _, hj⟩, rfl, by omega, fun I lv b fu e => ⟨fu, rfl⟩⟩
  | succ k ih =>
    intro j tb hk hj
    have hp := posT_le (B := B) (n := n) j
    by_cases c0 : tkC B n (posT B n j) = 282
    · have hpe := tkE_lt hp (show tkC B n (posT B n j) ≠ 1001 by omega)
      have hj1 := (t.end hj).mpr (by omega)
      have e : aNot B n (k + 1) (posT B n j) tb = aNot B n k (posT B n (j + 1)) (!tb) := if_pos c0
      have he : posT B n (j + 1) = tkE B n (posT B n j) := rfl
      obtain ⟨j1, a1, a2, a3, a4⟩ := ih (j + 1) (!tb) (by omega) (by omega)
      rw [e]
      refine ⟨j1, ⟨by omega, a1.2⟩, a2, a3, fun I lv b fu eo => ?_⟩
      obtain ⟨fu', q⟩ := a4 I lv b fu eo
      refine ⟨fu', ?_⟩
      rw [← q, show fu + (k + 1) + 1 = (fu + k + 1) + 1 by omega, e_M_plainOf_2, yck (bT_88 s), s_passes0 (d := d + 5) s eo hj, if_pos ((tr_p76 t (m := 7) (tk := 282) (by simp [trPs])).mpr c0), kI_o, if_neg (by decide)]
      cases tb with
      | false => rw [if_pos (show b2i false = 0 from rfl)]; rfl
      | true => rw [if_neg (show ¬ b2i true = 0 by decide)]; rfl
    · have e : aNot B n (k + 1) (posT B n j) tb = (posT B n j, tb) := if_neg c0
      rw [e]
      exact ⟨j, ⟨Nat.le_refl _, hj⟩, rfl, c0, fun I lv b fu eo => ⟨fu + (k + 1), rfl⟩⟩
theorem ev_plain (s : ShM h 88) (t : EvT B n c) {sum : Nat → Nat → RdR} {tst : Option (Nat → Nat → RdR)} (z : EvW h J B n c o ord (fun lv g => rn (d + 7) 217 [iR (some 88), iI lv] g) (aPos B n tst sum)) : EvW h J B n c o ord (fun lv g => rn (d + 8) 216 [iR (some 88), iI lv] g) (aPlain B n tst sum) := by
  intro j l p' l' g hj hr
  have hcn := t.2.1
  rw [aPlain_e] at hr
  obtain ⟨j1, a1, a2, a3, a4⟩ := ev_not (d := d) (o := o) (h := h) (J := J) (ord := ord) s t (n - posT B n j) j false (Nat.le_refl _) hj
  rw [a2] at hr
  cases e1 : aPos B n tst sum (posT B n j1) l with
  | inl q =>
    rw [e1] at hr
    cases hr
  | inr x =>
    obtain ⟨p1, l1, g1⟩ := x
    rw [e1] at hr
    cases hr
    obtain ⟨j2, b1, b2, b3⟩ := z j1 l p' l' g1 a1.2 e1
    refine ⟨j2, ⟨by omega, b1.2⟩, b2, fun I lv b e hlv hb => ?_⟩
    obtain ⟨k1, v, k2, k3, k4⟩ := b3 I lv b e hlv hb
    obtain ⟨fu', q⟩ := a4 I lv b (999998 - (n - posT B n j)) e
    rw [show 999998 - (n - posT B n j) + (n - posT B n j) + 1 = 999999 by omega] at q
    have hnot : ¬ cdM B n (posT B n j1) = 7 := fun y => a3 ((tr_p76 t (m := 7) (tk := 282) (by simp [trPs])).mp y)
    try dsimp only at k4 ⊢
    rw [r_M_plainOf, e_M_plainOf]
    have q' : lp (d + 7) 216 999999 2 [some (iR (some 88)), some (iI lv), some (iI 0)] [] (st h (evI I ((o + j : Nat) : Int) b) J) = _ := q
    rw [q', e_M_plainOf_2, yck (bT_88 s), s_passes0 (d := d + 5) s e a1.2, if_neg hnot, kI_o, if_pos rfl, yck (bT_88 s), k4, kI_o]
    cases et : (aNot B n (n - posT B n j) (posT B n j) false).2 with
    | false =>
      have eg : (if false = true then negF g1 else g1) = g1 := if_neg (by decide)
      rw [eg]
      refine ⟨k1, v, k2, k3, ?_⟩
      rcases k2 with y | y
      · rw [y, if_pos (show (0 : Int) = b2i false from rfl), xZ_0]
      · rw [y, if_neg (show ¬ (1 : Int) = b2i false by decide), xZ_1]
    | true =>
      have eg : (if true = true then negF g1 else g1) = negF g1 := if_pos rfl
      rw [eg]
      have hn : tst3 (negF g1 (wsM ord I)) := by
        unfold negF
        rcases k1 with y | y | y
        · rw [if_pos y]; exact Or.inl rfl
        · rw [if_neg (by rw [y]; decide), y]; exact Or.inr (Or.inr rfl)
        · rw [if_neg (by rw [y]; decide), y]; exact Or.inr (Or.inl rfl)
      have hB : evB lv b (negF g1 (wsM ord I)) = evB lv b (g1 (wsM ord I)) := by
        unfold negF
        rcases k1 with y | y | y
        · rw [if_pos y, y]
        · rw [if_neg (by rw [y]; decide), y]
          unfold evB
          rw [if_neg (fun q => absurd q.2 (by decide)), if_neg (fun q => absurd q.2 (by decide))]
        · rw [if_neg (by rw [y]; decide), y]
          unfold evB
          rw [if_neg (fun q => absurd q.2 (by decide)), if_neg (fun q => absurd q.2 (by decide))]
      rw [hB]
      have hv : lv = 1 → b = 0 → negF g1 (wsM ord I) ≠ BRK → 1 - v = negF g1 (wsM ord I) := fun y1 y2 y3 => by
        have y4 : g1 (wsM ord I) ≠ BRK := fun q => y3 (if_pos q)
        have := k3 y1 y2 y4
        unfold negF
        rw [if_neg y4, this]
      refine ⟨hn, 1 - v, by omega, hv, ?_⟩
      rcases k2 with y | y
      · rw [y, if_neg (show ¬ (0 : Int) = b2i true by decide), xZ_1]
        rfl
      · rw [y, if_pos (show (1 : Int) = b2i true from rfl), xZ_0]
        rfl
/-- a TEST with r brackets more to spare -/
theorem ev_testR (s : ShM h 88) (t : EvT B n c) (ho : ord = 0 ∨ ord = 1) : ∀ r : Nat, EvW h J B n c o ord (fun lv g => rn (d + 4 * r + 10) 214 [iR (some 88), iI lv] g) (aTest B n ord r) := by
  intro r
  induction r with
  | zero => exact ev_test (d := d) s t (ev_both (d := d) s t (ev_plain (d := d) s t (ev_pos0 (d := d) s t (fun p l x e => aSum_40e e) (ev_sumR (d := d) s t ho 0))))
  | succ r ih =>
    have e : d + 4 * (r + 1) + 10 = (d + 4 * r + 4) + 10 := by omega
    have z := ev_sumR (d := d + r + 1) (h := h) (J := J) (o := o) s t ho (r + 1)
    rw [show d + r + 1 + 3 * (r + 1) + 6 = (d + 4 * r + 4) + 6 by omega] at z
    rw [show d + 4 * r + 10 = (d + 4 * r + 4) + 6 by omega] at ih
    rw [e]
    exact ev_test (d := d + 4 * r + 4) s t (ev_both (d := d + 4 * r + 4) s t (ev_plain (d := d + 4 * r + 4) s t (ev_pos1 (d := d + 4 * r + 4) s t (fun p l x e => aSum_40e e) z ih)))
end P77
