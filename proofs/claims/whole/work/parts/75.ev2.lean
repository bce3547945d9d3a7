/-! The reference tells what PARTS mean (by program, wip/whole/gen75.py) -/
section P75
variable {d n c o : Nat} {h : IH} {J : Nat → Nat → Int} {B : Nat → Int} {ord : Int}
theorem wsO_ev (I : Nat → Nat → Int) (g b : Int) : wsO (evI I g b) = wsO I := by
  have e := wsM_ev 1 I g b
  unfold wsM at e
  rw [if_neg (by decide), if_neg (by decide)] at e
  exact e
theorem l_94 (s : ShM h 88) {I : Nat → Nat → Int} {lv b : Int} (hm : 0 ≤ I 90 183 ∧ I 90 183 ≤ 7) (h25 : I 88 25 = ord) {x k val : Int} {g : Nat} (f : Nat)
    (hval : (x = 50 ∧ I 90 (2993 + g) = val ∧ 1 ≤ g ∧ g ≤ 2800) ∨ (ord = 0 ∧ (8 ≤ x ∧ x ≤ 16) ∧ I 100 (x - 8).toNat = val) ∨ (ord ≠ 0 ∧ (15 ≤ x ∧ x ≤ 20) ∧ (0 ≤ k ∧ k ≤ 6) ∧ wsO I (if x = 15 then 11 + k.toNat else if x = 20 then 4 + k.toNat else (x - 16).toNat) = val)) : lp (d + 3) 212 (f + 1) 94 [some (iR (some 88)), some (iI lv), some (iI x), some (iI k)] [] (st h (evI I (g : Int) b) J) = some (oJ (if lv = 0 ∨ b ≠ 0 then 0 else val), st h (evI I (g : Int) b) J) := by
  rw [e_M_partOf_94]
  by_cases c1 : lv = 0
  · rw [if_pos c1, if_pos (Or.inl c1)]
  rw [if_neg c1, ygI (bT_88 s), evI_b]
  by_cases c2 : b = 0
  · rw [if_pos c2, if_neg (show ¬ (lv = 0 ∨ b ≠ 0) from fun z => z.elim c1 (fun q => q c2))]
    rcases hval with ⟨a1, a2, a3, a4⟩ | ⟨a1, a2, a3⟩ | ⟨a1, a2, a3, a4⟩
    · rw [if_pos a1, ygR (bT_88 s) (bR_2 s), ygI (bT_88 s), evI_g, xB_s, zAI (i := 2993 + g) (bT_90 s) (bL_90 s) (by rw [wr_id (x := 2994 + (g : Int)) (by omega) (by omega), wr_id (by omega) (by omega)]; omega) (by omega), evI_na (by omega), a2]
    · rw [if_neg (by omega), ygI (bT_88 s), evI_ni (by omega) (by omega), h25, if_pos a1, ygR (bT_88 s) (bR_26 s), xB_s, zAI (i := (x - 8).toNat) (bT_100 s) (bL_100 s) (by rw [wr_id (by omega) (by omega)]; omega) (by omega), evI_na (by omega), a3]
    · rw [if_neg (by omega), ygI (bT_88 s), evI_ni (by omega) (by omega), h25, if_neg a1, yck (bT_88 s), s_orderV (d := d) s (by rw [evI_na (by omega)]; exact hm) a2 a3, kI_o, wsO_ev, a4]
  · rw [if_neg c2, if_pos (show lv = 0 ∨ b ≠ 0 from Or.inr c2)]
theorem evJ_ok {lv b x : Int} (hb : b = 0 ∨ b = 1) (hx : bdd x) : (if lv = 0 ∨ b ≠ 0 then 0 else x) = evJ lv b x := by
  have := bdd_nb hx
  unfold evJ
  by_cases c : lv = 0 ∨ b ≠ 0
  · rw [if_pos c, if_pos (by omega)]
  · rw [if_neg c, if_neg (by omega)]
theorem evB_ok {lv b x : Int} (hx : bdd x) : evB lv b x = b := if_neg fun z => bdd_nb hx z.2
theorem ordW_in (x : Int) : ordW x = -1 ∨ (0 ≤ ordW x ∧ ordW x ≤ 4) ∨ ordW x = 11 := by
  unfold ordW
  (repeat' split) <;> omega
theorem ordW_tr : ∀ x : Int, ordW x ≠ -1 → (x = 263 ∨ x = 265 ∨ x = 266 ∨ x = 267 ∨ x = 268 ∨ x = 258) := by
  intro x hx
  unfold ordW at hx
  (repeat' split at hx) <;> omega
theorem ev_leaf (s : ShM h 88) (t : EvT B n c) (ho : ord = 0 ∨ ord = 1) {j l p' l' : Nat} {g : Mng} (hj : j ≤ c) (hr : aLeaf B n ord (posT B n j) l = .inr (p', l', g)) : ∃ j', (j ≤ j' ∧ j' ≤ c) ∧ posT B n j' = p' ∧ ∀ (I : Nat → Nat → Int) (lv b : Int), EvOk B n c o ord I → (lv = 0 ∨ lv = 1) → (b = 0 ∨ b = 1) → (g (wsM ord I) = BRK ∨ bdd (g (wsM ord I))) ∧ rn (d + 4) 212 [iR (some 88), iI lv] (st h (evI I ((o + j : Nat) : Int) b) J) = some (oJ (evJ lv b (g (wsM ord I))), st h (evI I ((o + j' : Nat) : Int) (evB lv b (g (wsM ord I)))) J) := by
  have hcn := t.2.1
  unfold aLeaf at hr
  by_cases c0 : 50 ≤ l
  · rw [if_pos c0] at hr
    cases hr
  rw [if_neg c0] at hr
  by_cases c1 : tkC B n (posT B n j) = 1000 ∧ tkV B n (posT B n j) ≤ 1000
  · rw [if_pos c1] at hr
    cases hr
    have hj1 := (t.end hj).mpr (by omega)
    have h91 : ¬ cdM B n (posT B n j) = 100 + 91 := fun y => by
      have := (tr_sign t.1 (c := 91) (by omega)).mp y
      omega
    have h50 : cdM B n (posT B n j) = 50 := (tr_num t.1).mpr c1.1
    refine ⟨j + 1, ⟨by omega, by omega⟩, rfl, fun I lv b e hlv hb => ?_⟩
    have e3 := e.2.1.2.2
    have w1 : wr (((o + j : Nat) : Int) + 1) = ((o + (j + 1) : Nat) : Int) := by rw [wr_id (by omega) (by omega)]; omega
    have hv := tkV_in B n (posT B n j)
    have hbd : bdd (tkV B n (posT B n j)) := by unfold bdd; omega
    have hvl : vlM B n (posT B n j) = tkV B n (posT B n j) := by
      have := vl_rel B n (posT B n j)
      unfold vRel at this
      omega
    have hK : I 90 (2993 + (o + (j + 1))) = tkV B n (posT B n j) := by
      rw [← hvl, ← (e.2.2.1 j hj1).2]
      congr 1
      omega
    refine ⟨Or.inr hbd, ?_⟩
    have l94 := l_94 (d := d) (J := J) (lv := lv) (b := b) s e.2.2.2.1 e.2.1.2.1 (x := 50) (k := 0) (val := tkV B n (posT B n j)) (g := o + (j + 1)) 999998 (Or.inl ⟨rfl, hK, by omega, by omega⟩)
    rw [r_M_partOf, e_M_partOf, s_signM (d := d + 2) _ (by omega), kI_o, yck (bT_88 s), s_passes0 (d := d + 1) s e hj, if_neg h91, kI_o, if_pos rfl, ygI (bT_88 s), evI_g, yck (bT_88 s), s_codeAt (d := d + 2) s e hj, kI_o, ygI (bT_88 s), evI_g, ypI (bT_88 s) (by omega), evI_go, w1, ygI (bT_88 s), evI_ni (by omega) (by omega), e.2.1.2.1, h50]
    rw [evJ_ok hb hbd] at l94
    rw [evB_ok hbd]
    rcases ho with z | z
    · rw [if_pos z]
      exact l94
    · rw [if_neg (by omega), if_neg (by decide), if_neg (by decide)]
      exact l94
  rw [if_neg c1] at hr
  have h91 : (¬ tkC B n (posT B n j) = 91) → ¬ cdM B n (posT B n j) = 100 + 91 := fun q y => q ((tr_sign t.1 (c := 91) (by omega)).mp y)
  by_cases c2 : ord = 0
  · rw [if_pos c2] at hr
    by_cases c3 : 256 ≤ tkC B n (posT B n j) ∧ tkC B n (posT B n j) ≤ 264
    · rw [if_pos c3] at hr
      cases hr
      have hj1 := (t.end hj).mpr (by omega)
      have h91 := h91 (by omega)
      refine ⟨j + 1, ⟨by omega, by omega⟩, rfl, fun I lv b e hlv hb => ?_⟩
      have e3 := e.2.1.2.2
      have w1 : wr (((o + j : Nat) : Int) + 1) = ((o + (j + 1) : Nat) : Int) := by rw [wr_id (by omega) (by omega)]; omega
      have ecd : cdM B n (posT B n j) = trC (tkC B n (posT B n j)) := by
        rw [cdM_tr t.1]
        unfold trM
        rw [if_neg (by omega), if_neg (by omega), if_neg (by omega)]
      have hx : 8 ≤ cdM B n (posT B n j) ∧ cdM B n (posT B n j) ≤ 16 := (tr_r t.1).1.mpr c3
      have hw : wsM ord I (tkC B n (posT B n j) - 256).toNat = I 100 (cdM B n (posT B n j) - 8).toNat := by
        unfold wsM wsL
        rw [if_pos c2, if_pos (by omega), ecd, show 256 + (((tkC B n (posT B n j) - 256).toNat : Nat) : Int) = tkC B n (posT B n j) by omega]
      have hbd : bdd (wsM ord I (tkC B n (posT B n j) - 256).toNat) := e.2.2.2.2 _ (by omega)
      refine ⟨Or.inr hbd, ?_⟩
      have l94 := l_94 (d := d) (J := J) (lv := lv) (b := b) s e.2.2.2.1 e.2.1.2.1 (x := cdM B n (posT B n j)) (k := 0) (val := wsM ord I (tkC B n (posT B n j) - 256).toNat) (g := o + (j + 1)) 999998 (Or.inr (Or.inl ⟨c2, hx, hw.symm⟩))
      rw [r_M_partOf, e_M_partOf, s_signM (d := d + 2) _ (by omega), kI_o, yck (bT_88 s), s_passes0 (d := d + 1) s e hj, if_neg h91, kI_o, if_pos rfl, ygI (bT_88 s), evI_g, yck (bT_88 s), s_codeAt (d := d + 2) s e hj, kI_o, ygI (bT_88 s), evI_g, ypI (bT_88 s) (by omega), evI_go, w1, ygI (bT_88 s), evI_ni (by omega) (by omega), e.2.1.2.1, if_pos c2]
      rw [evJ_ok hb hbd] at l94
      rw [evB_ok hbd]
      exact l94
    · rw [if_neg c3] at hr
      cases hr
  rw [if_neg c2] at hr
  by_cases c3 : ordW (tkC B n (posT B n j)) = -1
  · rw [if_pos c3] at hr
    cases hr
  rw [if_neg c3] at hr
  have h6 := ordW_tr _ c3
  have hj1 := (t.end hj).mpr (by omega)
  have h91 := h91 (by omega)
  have hx : 15 ≤ cdM B n (posT B n j) ∧ cdM B n (posT B n j) ≤ 20 := (tr_r t.1).2.1.mpr c3
  have h4 := (tr_r (n := n) (p := posT B n j) t.1).2.2
  have ecd : cdM B n (posT B n j) = trC (tkC B n (posT B n j)) := by
    rw [cdM_tr t.1]
    unfold trM
    rw [if_neg (by omega), if_neg (by omega), if_neg (by omega)]
  by_cases c4 : ordW (tkC B n (posT B n j)) < 4
  · rw [if_pos c4] at hr
    cases hr
    have hn : ¬ (cdM B n (posT B n j) = 15) ∧ ¬ (cdM B n (posT B n j) = 20) := ⟨fun z => by have := h4.mp (Or.inl z); omega, fun z => by have := h4.mp (Or.inr z); omega⟩
    have hid : (cdM B n (posT B n j) - 16).toNat = (ordW (tkC B n (posT B n j))).toNat := by
      rw [ecd]
      rcases h6 with z | z | z | z | z | z <;> rw [z] at c4 ⊢ <;> first | rfl | exact absurd c4 (by decide)
    refine ⟨j + 1, ⟨by omega, by omega⟩, rfl, fun I lv b e hlv hb => ?_⟩
    have e3 := e.2.1.2.2
    have w1 : wr (((o + j : Nat) : Int) + 1) = ((o + (j + 1) : Nat) : Int) := by rw [wr_id (by omega) (by omega)]; omega
    have hwO : wsM ord I = wsO I := by unfold wsM; rw [if_neg c2]
    have hbd : bdd (wsM ord I (ordW (tkC B n (posT B n j))).toNat) := e.2.2.2.2 _ (by have := ordW_in (tkC B n (posT B n j)); omega)
    refine ⟨Or.inr hbd, ?_⟩
    have l94 := l_94 (d := d) (J := J) (lv := lv) (b := b) s e.2.2.2.1 e.2.1.2.1 (x := cdM B n (posT B n j)) (k := 0) (val := wsM ord I (ordW (tkC B n (posT B n j))).toNat) (g := o + (j + 1)) 999998 (Or.inr (Or.inr ⟨c2, hx, by omega, by rw [if_neg hn.1, if_neg hn.2, hid, hwO]⟩))
    rw [r_M_partOf, e_M_partOf, s_signM (d := d + 2) _ (by omega), kI_o, yck (bT_88 s), s_passes0 (d := d + 1) s e hj, if_neg h91, kI_o, if_pos rfl, ygI (bT_88 s), evI_g, yck (bT_88 s), s_codeAt (d := d + 2) s e hj, kI_o, ygI (bT_88 s), evI_g, ypI (bT_88 s) (by omega), evI_go, w1, ygI (bT_88 s), evI_ni (by omega) (by omega), e.2.1.2.1, if_neg c2, if_neg hn.1, if_neg hn.2]
    rw [evJ_ok hb hbd] at l94
    rw [evB_ok hbd]
    exact l94
  · rw [if_neg c4] at hr
    by_cases c5 : tkC B n (tkE B n (posT B n j)) = 1000 ∧ tkV B n (tkE B n (posT B n j)) ≤ 6
    · rw [if_pos c5] at hr
      cases hr
      have eP : tkE B n (posT B n j) = posT B n (j + 1) := rfl
      have hj2 : j + 1 < c := (t.end (by omega)).mpr (by rw [← eP]; omega)
      refine ⟨j + 2, ⟨by omega, by omega⟩, rfl, fun I lv b e hlv hb => ?_⟩
      have e3 := e.2.1.2.2
      have w1 : wr (((o + j : Nat) : Int) + 1) = ((o + (j + 1) : Nat) : Int) := by rw [wr_id (by omega) (by omega)]; omega
      have w2 : wr (((o + (j + 1) : Nat) : Int) + 1) = ((o + (j + 2) : Nat) : Int) := by rw [wr_id (by omega) (by omega)]; omega
      have hwO : wsM ord I = wsO I := by unfold wsM; rw [if_neg c2]
      have hv := tkV_in B n (tkE B n (posT B n j))
      have hvl : vlM B n (posT B n (j + 1)) = tkV B n (tkE B n (posT B n j)) := by
        have := vl_rel B n (posT B n (j + 1))
        rw [← eP] at this ⊢
        unfold vRel at this
        omega
      have hK : I 90 (2994 + (o + (j + 1))) = tkV B n (tkE B n (posT B n j)) := by
        rw [← hvl, ← (e.2.2.1 (j + 1) hj2).2]
      have ho4 := ordW_in (tkC B n (posT B n j))
      have hbd : bdd (wsM ord I (ordW (tkC B n (posT B n j)) + tkV B n (tkE B n (posT B n j))).toNat) := e.2.2.2.2 _ (by omega)
      refine ⟨Or.inr hbd, ?_⟩
      have hid : (if cdM B n (posT B n j) = 15 then 11 + (tkV B n (tkE B n (posT B n j))).toNat else if cdM B n (posT B n j) = 20 then 4 + (tkV B n (tkE B n (posT B n j))).toNat else (cdM B n (posT B n j) - 16).toNat) = (ordW (tkC B n (posT B n j)) + tkV B n (tkE B n (posT B n j))).toNat := by
        rw [ecd]
        rcases h6 with z | z | z | z | z | z <;> rw [z] at c4 ⊢
        · exact absurd (show ordW 263 < 4 by decide) c4
        · exact absurd (show ordW 265 < 4 by decide) c4
        · exact absurd (show ordW 266 < 4 by decide) c4
        · exact absurd (show ordW 267 < 4 by decide) c4
        · have e1 : trC 268 = 20 := by decide
          have e2 : ordW 268 = 4 := by decide
          rw [e1, e2, if_neg (by decide), if_pos rfl]
          omega
        · have e1 : trC 258 = 15 := by decide
          have e2 : ordW 258 = 11 := by decide
          rw [e1, e2, if_pos rfl]
          omega
      have l94 := l_94 (d := d) (J := J) (lv := lv) (b := b) s e.2.2.2.1 e.2.1.2.1 (x := cdM B n (posT B n j)) (k := tkV B n (tkE B n (posT B n j))) (val := wsM ord I (ordW (tkC B n (posT B n j)) + tkV B n (tkE B n (posT B n j))).toNat) (g := o + (j + 2)) 999998 (Or.inr (Or.inr ⟨c2, hx, by omega, by rw [hid, hwO]⟩))
      rw [r_M_partOf, e_M_partOf, s_signM (d := d + 2) _ (by omega), kI_o, yck (bT_88 s), s_passes0 (d := d + 1) s e hj, if_neg h91, kI_o, if_pos rfl, ygI (bT_88 s), evI_g, yck (bT_88 s), s_codeAt (d := d + 2) s e hj, kI_o, ygI (bT_88 s), evI_g, ypI (bT_88 s) (by omega), evI_go, w1, ygI (bT_88 s), evI_ni (by omega) (by omega), e.2.1.2.1, if_neg c2]
      rw [evJ_ok hb hbd] at l94
      rw [evB_ok hbd]
      have rd : ∀ k : Int → Option IR, xaI (st h (evI I ((o + (j + 1) : Nat) : Int) b) J) 90 (wr (2994 + ((o + (j + 1) : Nat) : Int))) k = k (tkV B n (tkE B n (posT B n j))) := fun k => by
        rw [zAI (i := 2994 + (o + (j + 1))) (bT_90 s) (bL_90 s) (by rw [wr_id (by omega) (by omega)]; omega) (by omega), evI_na (by omega), hK]
      by_cases c15 : cdM B n (posT B n j) = 15
      · rw [if_pos c15, ygR (bT_88 s) (bR_2 s), ygI (bT_88 s), evI_g, xB_s, rd, ygI (bT_88 s), evI_g, ypI (bT_88 s) (by omega), evI_go, w2]
        exact l94
      · have c20 : cdM B n (posT B n j) = 20 := (h4.mpr (by omega)).resolve_left c15
        rw [if_neg c15, if_pos c20, ygR (bT_88 s) (bR_2 s), ygI (bT_88 s), evI_g, xB_s, rd, ygI (bT_88 s), evI_g, ypI (bT_88 s) (by omega), evI_go, w2]
        exact l94
    · rw [if_neg c5] at hr
      cases hr
theorem ev_part0 (s : ShM h 88) (t : EvT B n c) (ho : ord = 0 ∨ ord = 1) : EvQ h J B n c o ord (fun lv g => rn (d + 4) 212 [iR (some 88), iI lv] g) (aPart B n ord none) :=
  fun j l p' l' g hj hr => ev_leaf s t ho hj hr
theorem ev_part1 (s : ShM h 88) (t : EvT B n c) (ho : ord = 0 ∨ ord = 1) {inn : Nat → Nat → RdR} (z : EvQ h J B n c o ord (fun lv g => rn (d + 3) 210 [iR (some 88), iI lv] g) inn) : EvQ h J B n c o ord (fun lv g => rn (d + 4) 212 [iR (some 88), iI lv] g) (aPart B n ord (some inn)) := by
  intro j l p' l' g hj hr
  have hcn := t.2.1
  unfold aPart at hr
  try dsimp only at hr
  by_cases c1 : tkC B n (posT B n j) = 91
  · rw [if_pos c1] at hr
    have hj1 := (t.end hj).mpr (by omega)
    cases e1 : inn (tkE B n (posT B n j)) l with
    | inl q =>
      rw [e1] at hr
      cases hr
    | inr x =>
      obtain ⟨p1, l1, g1⟩ := x
      rw [e1] at hr
      obtain ⟨j1, a1, a2, a3⟩ := z (j + 1) l p1 l1 g1 (by omega) e1
      subst a2
      unfold aClose at hr
      try dsimp only at hr
      by_cases c2 : tkC B n (posT B n j1) = 93
      · rw [if_pos c2] at hr
        cases hr
        have hj2 := (t.end a1.2).mpr (by omega)
        refine ⟨j1 + 1, ⟨by omega, by omega⟩, rfl, fun I lv b e hlv hb => ?_⟩
        have e3 := e.2.1.2.2
        obtain ⟨q1, q2⟩ := a3 I lv b e hlv hb
        refine ⟨q1, ?_⟩
        try dsimp only at q2 ⊢
        rw [r_M_partOf, e_M_partOf, s_signM (d := d + 2) _ (by omega), kI_o, yck (bT_88 s), s_passes0 (d := d + 1) s e hj, if_pos ((tr_sign t.1 (c := 91) (by omega)).mpr c1), kI_o, if_neg (by decide), yck (bT_88 s), q2, kJ_o, ygI (bT_88 s), evI_g, ypI (bT_88 s) (by omega), evI_go, wr_id (by omega) (by omega)]
        rfl
      · rw [if_neg c2] at hr
        cases hr
  · rw [if_neg c1] at hr
    exact ev_leaf s t ho hj hr
/-- a SUM with r brackets more to spare -/
theorem ev_sumR (s : ShM h 88) (t : EvT B n c) (ho : ord = 0 ∨ ord = 1) : ∀ r : Nat, EvQ h J B n c o ord (fun lv g => rn (d + 3 * r + 6) 210 [iR (some 88), iI lv] g) (aSum B n ord r) := by
  intro r
  induction r with
  | zero => exact ev_sum (d := d) s t (ev_term (d := d) s t (ev_part0 (d := d) s t ho))
  | succ r ih =>
    have e : d + 3 * (r + 1) + 6 = (d + 3 * r + 3) + 6 := by omega
    rw [e]
    exact ev_sum (d := d + 3 * r + 3) s t (ev_term (d := d + 3 * r + 3) s t (ev_part1 (d := d + 3 * r + 3) s t ho ih))
end P75
