/-! The class's reader: SUMS (by program, wip/whole/gen53.py) -/
section P53
variable {d n nw : Nat} {h : IH} {J : Nat → Nat → Int} {B : Nat → Int} {ord : Int} {Q : Mng → Prop}
theorem RdPr.ok {run : IH → Option IR} {f : Nat → Nat → RdR} (z : RdPr h J B n ord nw Q run f) {I : Nat → Nat → Int} {p l m : Nat} (r : RdOk B n ord I p l m) (hl : l ≤ 50) (hm : m ≤ p) : ∃ I', RdFr I' I ∧ run (st h I J) = some (o0, st h I' J) ∧ PrG B n ord nw Q I' I p l m (f p l) := z.1 I p l m r hl hm
/-- a PART behind the FAULT -/
theorem s_partN (s : ShT h) (ho : ord = 0 ∨ ord = 1) {I : Nat → Nat → Int} {q : Int} (r : RdNo B n ord I q) (br : Int) : rn (d + 2) 69 [iR (some 43), iI br] (st h I J) = some (o0, st h (up I 43 9 (wr (I 43 9 + 1))) J) := by
  have r1 : RdNo B n ord (up I 43 9 (wr (I 43 9 + 1))) q := r.part
  rw [r_Rd_readPart, e_Rd_readPart, ygI (aT_43 s), r.2.1.2.2, if_neg (by decide), e_Rd_readPart_47, ygI (aT_43 s), ypI (aT_43 s) (by omega), yck (aT_43 s), s_isNumber s, kI_o, r1.2.1.2.2, if_neg (show ¬ ((1002 : Int) = 1000 ∧ (0 : Int) ≤ up I 43 9 (wr (I 43 9 + 1)) 43 8 ∧ up I 43 9 (wr (I 43 9 + 1)) 43 8 ≤ 1000) from fun z => absurd z.1 (by decide)), if_pos rfl, ygI (aT_43 s), r1.1.2.2]
  by_cases c : ord = 0
  · rw [if_pos c, yck (aT_43 s), s_lawWord s (by rw [r1.2.1.2.2]; decide), kI_o, r1.2.1.2.2, if_neg (show ¬ ((256 : Int) ≤ 1002 ∧ (1002 : Int) ≤ 264) by decide), e_Rd_readPart_95, if_pos rfl, ygI (aT_43 s), r1.1.2.2, if_pos c, e_Rd_readPart_146, if_pos rfl, yck (aT_43 s), s_failN s r1, kV_o]
  · rw [if_neg c, yck (aT_43 s), s_ordersWord s, kI_o, r1.2.1.2.2, show ordW 1002 = -1 from rfl, e_Rd_readPart_95, if_pos rfl, ygI (aT_43 s), r1.1.2.2, if_neg c, if_pos (by decide), e_Rd_readPart_146, if_pos rfl, yck (aT_43 s), s_failN s r1, kV_o]
theorem pr_part0 (s : ShT h) (rb : hR h 43 2 = some 42) (hn : n ≤ 400) (hB : ∀ i, 0 ≤ B i ∧ B i ≤ 255) (ho : (ord = 0 ∧ nw = 9) ∨ (ord = 1 ∧ nw = 18)) : RdPr h J B n ord nw (fun _ => True) (fun g => rn (d + 3) 69 [iR (some 43), iI 8] g) (aPart B n ord none) := by
  refine ⟨fun I p l m r hl hm => ?_, fun I q r => ⟨_, RdFr.u43 _ _ _, s_partN (d := d + 1) s (by omega) r 8, r.part⟩⟩
  obtain ⟨I', a1, a3, a4⟩ := l_leaf (d := d) (J := J) s rb hn hB ho r hl hm 999996
  refine ⟨I', a1, ?_, a4⟩
  show rn (d + 3) 69 [iR (some 43), iI 8] (st h I J) = _
  rw [r_Rd_readPart, e_Rd_readPart, ygI (aT_43 s)]
  by_cases c : I 43 5 = 91
  · rw [if_pos c, if_neg (by decide)]
    exact a3
  · rw [if_neg c]
    exact a3
theorem pr_part1 (s : ShT h) (rb : hR h 43 2 = some 42) (hn : n ≤ 400) (hB : ∀ i, 0 ≤ B i ∧ B i ≤ 255) (ho : (ord = 0 ∧ nw = 9) ∨ (ord = 1 ∧ nw = 18)) {br : Nat} (hbr : br < 8) {inn : Nat → Nat → RdR} (z : RdPr h J B n ord nw (fun _ => True) (fun g => rn (d + 2) 67 [iR (some 43), iI ((br + 1 : Nat) : Int)] g) inn) : RdPr h J B n ord nw (fun _ => True) (fun g => rn (d + 3) 69 [iR (some 43), iI (br : Int)] g) (aPart B n ord (some inn)) := by
  refine ⟨fun I p l m r hl hm => ?_, fun I q r => ⟨_, RdFr.u43 _ _ _, s_partN (d := d + 1) s (by omega) r br, r.part⟩⟩
  show ∃ I', RdFr I' I ∧ rn (d + 3) 69 [iR (some 43), iI (br : Int)] (st h I J) = some (o0, st h I' J) ∧ PrG B n ord nw (fun _ => True) I' I p l m (aPart B n ord (some inn) p l)
  have c5 := r.2.1.2.1
  by_cases c : tkC B n p = 91
  · have hp := tkE_lt r.2.2.2.1.1 (show tkC B n p ≠ 1001 by omega)
    have ea : aPart B n ord (some inn) p l = aClose B n 93 (inn (tkE B n p) l) := if_pos c
    have r1 := r.next
    obtain ⟨I1, a1, a3, a4⟩ := z.ok r1 hl (by omega)
    have a3 : rn (d + 2) 67 [iR (some 43), iI ((br + 1 : Nat) : Int)] (st h (tkI I B n (tkE B n p)) J) = some (o0, st h I1 J) := a3
    have k1 := a1.tr (tkI_fr I B n (tkE B n p))
    have hd : rn (d + 3) 69 [iR (some 43), iI (br : Int)] (st h I J) = (if I1 43 5 = 93 then kV (rn (d + 2) 54 [iR (some 43)] (st h I1 J)) (fun h5 => some (o0, h5)) else kV (rn (d + 2) 56 [iR (some 43)] (st h I1 J)) fun h6 => some (o0, h6)) := by
      rw [r_Rd_readPart, e_Rd_readPart, ygI (aT_43 s), c5, if_pos c, if_pos (by omega), yck (aT_43 s), s_next s rb hn hB r, kV_o, yck (aT_43 s), wr_id (by omega) (by omega)]
      have a3' : rn (d + 2) 67 [iR (some 43), iI ((br : Int) + 1)] (st h (tkI I B n (tkE B n p)) J) = some (o0, st h I1 J) := a3
      rw [a3', kV_o, ygI (aT_43 s), yck (aT_43 s), yck (aT_43 s)]
    rw [hd, ea]
    cases e : inn (tkE B n p) l with
    | inl q =>
      have rq := a4.1 q e
      rw [rq.2.1.2.2, if_neg (by decide), s_failN s rq, kV_o]
      exact ⟨I1, k1, rfl, PrG.bad rq⟩
    | inr x =>
      obtain ⟨p', l', g⟩ := x
      obtain ⟨m', b1, b2, b3, b4, b5, b6, a2⟩ := a4.2 p' l' g e
      have k2 : SmSt I1 I m := a2.tr (SmSt.of43 (fun b hb => tkI_na hb) m) (Nat.le_refl _)
      rw [b1.2.1.2.1]
      by_cases c2 : tkC B n p' = 93
      · have hp2 := tkE_lt b1.2.2.2.1.1 (show tkC B n p' ≠ 1001 by omega)
        have e2 : aClose B n 93 (.inr (p', l', g)) = .inr (tkE B n p', l', g) := if_pos c2
        rw [if_pos c2, s_next s rb hn hB b1, kV_o, e2]
        refine ⟨_, (tkI_fr _ _ _ _).tr k1, rfl, PrG.fine b1.next b2 (by omega) (by omega) ?_ trivial ((SmSt.of43 (fun b hb => tkI_na hb) m).tr k2 (Nat.le_refl _))⟩
        rw [tkI_na (by omega), tkI_na (by omega)]
        exact b5
      · have e2 : aClose B n 93 (.inr (p', l', g)) = .inl (tkF B n p') := if_neg c2
        rw [if_neg c2, s_failO s b1, kV_o, e2]
        exact ⟨_, (fail_fr _ _ _).tr k1, rfl, PrG.bad (failO b1)⟩
  · have ea : aPart B n ord (some inn) p l = aLeaf B n ord p l := if_neg c
    obtain ⟨I', a1, a3, a4⟩ := l_leaf (d := d) (J := J) s rb hn hB ho r hl hm 999996
    rw [ea]
    refine ⟨I', a1, ?_, a4⟩
    rw [r_Rd_readPart, e_Rd_readPart, ygI (aT_43 s), c5, if_neg c]
    exact a3
/-- rows of things: what the loops of readTerm and readSum do -/
theorem l_row (s : ShT h) (rb : hR h 43 2 = some 42) (hn : n ≤ 400) (hB : ∀ i, 0 ≤ B i ∧ B i ≤ 255) {op : Int → Int} (h1 : op 1001 = 0) (h2 : op 1002 = 0) (hop : ∀ c, op c = 0 ∨ (2 ≤ op c ∧ op c ≤ 9)) {run : IH → Option IR} {it : Nat → Nat → RdR} (z : RdPr h J B n ord nw (fun _ => True) run it) {L : Nat → Nat → IH → Option IR} {c0 : Nat}
    (hst : ∀ (I : Nat → Nat → Int) (i f : Nat), i < 401 → op (I 43 5) = 0 → L (f + 1) i (st h I J) = some (o0, st h I J))
    (hgo : ∀ (I : Nat → Nat → Int) (i f : Nat), i < 400 → op (I 43 5) ≠ 0 → L (f + c0) i (st h I J) = kV (rn (d + 2) 54 [iR (some 43)] (st h I J)) fun g1 => xck g1 43 15 <| kV (run g1) fun g2 => xgR g2 43 15 0 fun x => xB x fun a => xck g2 a 19 <| kV (rn (d + 2) 84 [iR (some a), iI (op (I 43 5)), iI 0] g2) fun g3 => L f (i + 1) g3)
    {l0 m0 p0 : Nat} : ∀ (k p l m i fu : Nat) (I I0 : Nat → Nat → Int) (f : Mng), n - p ≤ k → c0 * k + 1 ≤ fu → RdOk B n ord I p l m → l ≤ 50 → m + p0 ≤ p + m0 → m0 ≤ p0 → i ≤ p → l0 < l → p0 < p → sem nw (I 45) (I 46) m0 m (l - l0) f → SmSt I I0 m0 → ∃ I', RdFr I' I ∧ L fu i (st h I J) = some (o0, st h I' J) ∧ PrG B n ord nw (fun _ => True) I' I0 p0 l0 m0 (rwRow B n op it k p l f) := by
  intro k
  induction k with
  | zero =>
    intro p l m i fu I I0 f hk hfu r hl hm hm0 hi hl0 hp0 hf hI0
    have hpn : ¬ (tkC B n p ≠ 1001) := fun q => by
      have := tkE_lt r.2.2.2.1.1 q
      omega
    have hc : tkC B n p = 1001 := Decidable.not_not.mp hpn
    have rp := r.2.2.2.1.1
    obtain ⟨fu, rfl⟩ : ∃ q, fu = q + 1 := ⟨fu - 1, by omega⟩
    exact ⟨I, RdFr.rf I, hst I i fu (by omega) (by rw [r.2.1.2.1, hc]; exact h1), PrG.fine r ⟨hl0, hl⟩ hp0 hm hf trivial hI0⟩
  | succ k ih =>
    intro p l m i fu I I0 f hk hfu r hl hm hm0 hi hl0 hp0 hf hI0
    have rp := r.2.2.2.1.1
    have r5 := r.2.1.2.1
    by_cases c : op (tkC B n p) = 0
    · obtain ⟨fu, rfl⟩ : ∃ q, fu = q + 1 := ⟨fu - 1, by omega⟩
      have e : rwRow B n op it (k + 1) p l f = .inr (p, l, f) := if_pos c
      rw [e]
      exact ⟨I, RdFr.rf I, hst I i fu (by omega) (by rw [r5]; exact c), PrG.fine r ⟨hl0, hl⟩ hp0 hm hf trivial hI0⟩
    · have hc : tkC B n p ≠ 1001 := fun q => c (by rw [q]; exact h1)
      have hp := tkE_lt rp hc
      have ho := (hop (tkC B n p)).resolve_left c
      have hck : c0 * (k + 1) = c0 * k + c0 := Nat.mul_succ c0 k
      obtain ⟨fu, rfl⟩ : ∃ q, fu = q + c0 := ⟨fu - c0, by omega⟩
      have r1 := r.next
      obtain ⟨I1, a1, a3, a4⟩ := z.ok r1 hl (by omega)
      have k1 := a1.tr (tkI_fr I B n (tkE B n p))
      have hm1 := hf.1
      rw [hgo I i fu (by omega) (by rw [r5]; exact c), s_next s rb hn hB r, kV_o, yck (aT_43 s), a3, kV_o, ygR (aT_43 s) (aR_43_0 s), xB_s, yck (aT_44 s), r5]
      have e : rwRow B n op it (k + 1) p l f = (match it (tkE B n p) l with
        | .inl q => .inl q
        | .inr (p', l', g) => rwRow B n op it k p' l' (binF (op (tkC B n p)) f g)) := if_neg c
      rw [e]
      cases e1 : it (tkE B n p) l with
      | inl q =>
        have rq := a4.1 q e1
        have rq2 := rq.add (a := op (tkC B n p)) (b := 0) (by omega) (by omega)
        rw [s_add s rq.2.2.1, kV_o]
        obtain ⟨fu, rfl⟩ : ∃ q, fu = q + 1 := ⟨fu - 1, by omega⟩
        rw [hst _ _ _ (by omega) (by rw [rq2.2.1.2.2]; exact h2)]
        exact ⟨_, (addI_fr _ _ _).tr k1, rfl, PrG.bad rq2⟩
      | inr x =>
        obtain ⟨p', l', g⟩ := x
        obtain ⟨m', b1, b2, b3, b4, b5, b6, a2⟩ := a4.2 p' l' g e1
        have k2 : SmSt I1 I m := a2.tr (SmSt.of43 (fun b hb => tkI_na hb) m) (Nat.le_refl _)
        have hb5 := b5.1
        have hm4 : m' < 400 := by have := b1.2.2.2.1.1; omega
        obtain ⟨r2, e2⟩ := b1.add (a := op (tkC B n p)) (b := 0) hm4 (by omega) (by omega)
        have e45 : addI I1 (op (tkC B n p)) 0 45 = up I1 45 m' (op (tkC B n p)) 45 := by rw [e2, up_na (by omega), up_na (by omega)]
        have e46 : addI I1 (op (tkC B n p)) 0 46 = up (up I1 45 m' (op (tkC B n p))) 46 m' 0 46 := by rw [e2, up_na (by omega)]
        have hs1 : SmSt (addI I1 (op (tkC B n p)) 0) I1 m' := fun j hj => ⟨by rw [e45, up_ni (by omega)], by rw [e46, up_ni (by omega), up_na (by omega)]⟩
        rw [s_add s (by rw [b1.2.2.1.2]; omega), kV_o]
        have hfs : sem nw (addI I1 (op (tkC B n p)) 0 45) (addI I1 (op (tkC B n p)) 0 46) m0 m (l - l0) f := hf.fr (fun j j1 j2 => ⟨(hs1 j (by omega)).1.trans (k2 j j2).1, (hs1 j (by omega)).2.trans (k2 j j2).2⟩)
        have hgs : sem nw (addI I1 (op (tkC B n p)) 0 45) (addI I1 (op (tkC B n p)) 0 46) m m' (l' - l) g := b5.fr (fun j j1 j2 => hs1 j j2)
        have hbs := sem_bin hfs hgs (show addI I1 (op (tkC B n p)) 0 45 m' = op (tkC B n p) by rw [e45, up_eq]) ho (by omega)
        rw [show l - l0 + (l' - l) = l' - l0 by omega] at hbs
        obtain ⟨I2, g1, g3, g4⟩ := ih p' l' (m' + 1) (i + 1) fu (addI I1 (op (tkC B n p)) 0) I0 (binF (op (tkC B n p)) f g) (by omega) (by omega) r2 b2.2 (by omega) hm0 (by omega) (by omega) (by omega) hbs (fun j hj => ⟨((hs1 j (by omega)).1.trans (k2 j (by omega)).1).trans (hI0 j hj).1, ((hs1 j (by omega)).2.trans (k2 j (by omega)).2).trans (hI0 j hj).2⟩)
        exact ⟨I2, g1.tr ((addI_fr _ _ _).tr k1), g3, g4⟩
theorem opT_in (c : Int) : opT c = 0 ∨ (2 ≤ opT c ∧ opT c ≤ 9) := by
  unfold opT
  (repeat' split) <;> omega
theorem opS_in (c : Int) : opS c = 0 ∨ (2 ≤ opS c ∧ opS c ≤ 9) := by
  unfold opS
  (repeat' split) <;> omega
theorem pr_rows (s : ShT h) (rb : hR h 43 2 = some 42) (hn : n ≤ 400) (hB : ∀ i, 0 ≤ B i ∧ B i ≤ 255) {op : Int → Int} (h1 : op 1001 = 0) (h2 : op 1002 = 0) (hop : ∀ c, op c = 0 ∨ (2 ≤ op c ∧ op c ≤ 9)) {run top : IH → Option IR} {it : Nat → Nat → RdR} (z : RdPr h J B n ord nw (fun _ => True) run it) {L : Nat → Nat → IH → Option IR} {c0 : Nat} (hc0 : c0 ≤ 4)
    (hst : ∀ (I : Nat → Nat → Int) (i f : Nat), i < 401 → op (I 43 5) = 0 → L (f + 1) i (st h I J) = some (o0, st h I J))
    (hgo : ∀ (I : Nat → Nat → Int) (i f : Nat), i < 400 → op (I 43 5) ≠ 0 → L (f + c0) i (st h I J) = kV (rn (d + 2) 54 [iR (some 43)] (st h I J)) fun g1 => xck g1 43 15 <| kV (run g1) fun g2 => xgR g2 43 15 0 fun x => xB x fun a => xck g2 a 19 <| kV (rn (d + 2) 84 [iR (some a), iI (op (I 43 5)), iI 0] g2) fun g3 => L f (i + 1) g3)
    (htop : ∀ I, top (st h I J) = kV (run (st h I J)) fun g => L 999999 0 g) : RdPr h J B n ord nw (fun _ => True) top (rwRows B n op it) := by
  refine ⟨fun I p l m r hl hm => ?_, fun I q r => ?_⟩
  · show ∃ I', RdFr I' I ∧ top (st h I J) = some (o0, st h I' J) ∧ PrG B n ord nw (fun _ => True) I' I p l m (rwRows B n op it p l)
    obtain ⟨I1, a1, a2, a3⟩ := z.ok r hl hm
    rw [htop, a2, kV_o]
    unfold rwRows
    cases e : it p l with
    | inl q =>
      have rq := a3.1 q e
      refine ⟨I1, a1, hst I1 0 999998 (by omega) (by rw [rq.2.1.2.2]; exact h2), PrG.bad rq⟩
    | inr x =>
      obtain ⟨p', l', g⟩ := x
      obtain ⟨m', b1, b2, b3, b4, b5, b6, b7⟩ := a3.2 p' l' g e
      have hpn := b1.2.2.2.1.1
      have hmul : c0 * (n - p') ≤ 4 * 400 := Nat.mul_le_mul hc0 (by omega)
      obtain ⟨I2, g1, g2, g3⟩ := l_row s rb hn hB h1 h2 hop z hst hgo (n - p') p' l' m' 0 999999 I1 I g (Nat.le_refl _) (by omega) b1 b2.2 b4 hm (by omega) b2.1 b3 b5 b7
      exact ⟨I2, g1.tr a1, g2, g3⟩
  · obtain ⟨I1, a1, a2, a3⟩ := z.2 I q r
    refine ⟨I1, a1, ?_, a3⟩
    rw [htop, a2, kV_o]
    exact hst I1 0 999998 (by omega) (by rw [a3.2.1.2.2]; exact h2)
theorem pr_term (s : ShT h) (rb : hR h 43 2 = some 42) (hn : n ≤ 400) (hB : ∀ i, 0 ≤ B i ∧ B i ≤ 255) {br : Int} {it : Nat → Nat → RdR} (z : RdPr h J B n ord nw (fun _ => True) (fun g => rn (d + 3) 69 [iR (some 43), iI br] g) it) : RdPr h J B n ord nw (fun _ => True) (fun g => rn (d + 4) 68 [iR (some 43), iI br] g) (rwRows B n opT it) := by
  refine pr_rows (d := d + 1) s rb hn hB (op := opT) rfl rfl opT_in z (L := fun f i g => lp (d + 3) 68 f 7 [some (iR (some 43)), some (iI br), some (iI (i : Nat)), none] [] g) (c0 := 3) (by omega) (fun I i f hi ho => ?_) (fun I i f hi ho => ?_) (fun I => ?_)
  · show lp (d + 3) 68 (f + 1) 7 [some (iR (some 43)), some (iI br), some (iI (i : Nat)), none] [] (st h I J) = _
    have c1 : I 43 5 ≠ 42 := fun q => by rw [q] at ho; exact absurd ho (by decide)
    have c2 : I 43 5 ≠ 47 := fun q => by rw [q] at ho; exact absurd ho (by decide)
    have c3 : I 43 5 ≠ 37 := fun q => by rw [q] at ho; exact absurd ho (by decide)
    rw [e_Rd_readTerm_7]
    by_cases c : (i : Int) < 400
    · rw [if_pos c, ygI (aT_43 s), if_neg c1, ygI (aT_43 s), if_neg c2, ygI (aT_43 s), if_neg c3]
    · rw [if_neg c]
  · show lp (d + 3) 68 (f + 3) 7 [some (iR (some 43)), some (iI br), some (iI (i : Nat)), none] [] (st h I J) = _
    have hd : lp (d + 3) 68 (f + 3) 7 [some (iR (some 43)), some (iI br), some (iI (i : Nat)), none] [] (st h I J) = lp (d + 3) 68 (f + 1) 69 [some (iR (some 43)), some (iI br), some (iI (i : Nat)), none] [iI (opT (I 43 5))] (st h I J) := by
      rw [e_Rd_readTerm_7, if_pos (by omega)]
      unfold opT at ho ⊢
      by_cases c1 : I 43 5 = 42
      · rw [if_pos c1, ygI (aT_43 s), if_pos c1, e_Rd_readTerm_41, ygI (aT_43 s), if_pos c1]
      · by_cases c2 : I 43 5 = 47
        · rw [if_neg c1, if_pos c2, ygI (aT_43 s), if_neg c1, ygI (aT_43 s), if_pos c2, e_Rd_readTerm_41, ygI (aT_43 s), if_neg c1, ygI (aT_43 s), if_pos c2]
        · by_cases c3 : I 43 5 = 37
          · rw [if_neg c1, if_neg c2, if_pos c3, ygI (aT_43 s), if_neg c1, ygI (aT_43 s), if_neg c2, ygI (aT_43 s), if_pos c3, e_Rd_readTerm_41, ygI (aT_43 s), if_neg c1, ygI (aT_43 s), if_neg c2]
          · rw [if_neg c1, if_neg c2, if_neg c3] at ho
            exact absurd rfl ho
    rw [hd, e_Rd_readTerm_69, yck (aT_43 s)]
    have hw : wr ((i : Int) + 1) = ((i + 1 : Nat) : Int) := by rw [wr_id (by omega) (by omega)]; rfl
    rw [hw]
  · show rn (d + 4) 68 [iR (some 43), iI br] (st h I J) = _
    rw [r_Rd_readTerm, e_Rd_readTerm, yck (aT_43 s)]
    rfl
theorem pr_sum (s : ShT h) (rb : hR h 43 2 = some 42) (hn : n ≤ 400) (hB : ∀ i, 0 ≤ B i ∧ B i ≤ 255) {br : Int} {it : Nat → Nat → RdR} (z : RdPr h J B n ord nw (fun _ => True) (fun g => rn (d + 4) 68 [iR (some 43), iI br] g) it) : RdPr h J B n ord nw (fun _ => True) (fun g => rn (d + 5) 67 [iR (some 43), iI br] g) (rwRows B n opS it) := by
  refine pr_rows (d := d + 2) s rb hn hB (op := opS) rfl rfl opS_in z (L := fun f i g => lp (d + 4) 67 f 7 [some (iR (some 43)), some (iI br), some (iI (i : Nat)), none] [] g) (c0 := 2) (by omega) (fun I i f hi ho => ?_) (fun I i f hi ho => ?_) (fun I => ?_)
  · show lp (d + 4) 67 (f + 1) 7 [some (iR (some 43)), some (iI br), some (iI (i : Nat)), none] [] (st h I J) = _
    have c1 : I 43 5 ≠ 43 := fun q => by rw [q] at ho; exact absurd ho (by decide)
    have c2 : I 43 5 ≠ 45 := fun q => by rw [q] at ho; exact absurd ho (by decide)
    rw [e_Rd_readSum_7]
    by_cases c : (i : Int) < 400
    · rw [if_pos c, ygI (aT_43 s), if_neg c1, ygI (aT_43 s), if_neg c2]
    · rw [if_neg c]
  · show lp (d + 4) 67 (f + 2) 7 [some (iR (some 43)), some (iI br), some (iI (i : Nat)), none] [] (st h I J) = _
    have hw : wr ((i : Int) + 1) = ((i + 1 : Nat) : Int) := by rw [wr_id (by omega) (by omega)]; rfl
    rw [e_Rd_readSum_7, if_pos (by omega)]
    by_cases c1 : I 43 5 = 43
    · have eo : opS (I 43 5) = 2 := by rw [c1]; rfl
      rw [ygI (aT_43 s), if_pos c1, e_Rd_readSum_32, ygI (aT_43 s), if_pos c1, yck (aT_43 s), hw, eo]
    · by_cases c2 : I 43 5 = 45
      · have eo : opS (I 43 5) = 3 := by rw [c2]; rfl
        rw [ygI (aT_43 s), if_neg c1, ygI (aT_43 s), if_pos c2, e_Rd_readSum_32, ygI (aT_43 s), if_neg c1, yck (aT_43 s), hw, eo]
      · unfold opS at ho
        rw [if_neg c1, if_neg c2] at ho
        exact absurd rfl ho
  · show rn (d + 5) 67 [iR (some 43), iI br] (st h I J) = _
    rw [r_Rd_readSum, e_Rd_readSum, yck (aT_43 s)]
    rfl
/-- a SUM with r brackets to spare, r at most 8 -/
theorem pr_sumR (s : ShT h) (rb : hR h 43 2 = some 42) (hn : n ≤ 400) (hB : ∀ i, 0 ≤ B i ∧ B i ≤ 255) (ho : (ord = 0 ∧ nw = 9) ∨ (ord = 1 ∧ nw = 18)) : ∀ r : Nat, r ≤ 8 → RdPr h J B n ord nw (fun _ => True) (fun g => rn (d + 3 * r + 5) 67 [iR (some 43), iI ((8 - r : Nat) : Int)] g) (aSum B n ord r) := by
  intro r
  induction r with
  | zero =>
    intro _
    exact pr_sum s rb hn hB (pr_term s rb hn hB (pr_part0 s rb hn hB ho))
  | succ r ih =>
    intro hr
    have z := ih (by omega)
    have e : 8 - r = (8 - (r + 1)) + 1 := by omega
    rw [e] at z
    exact pr_sum (d := d + 3 * r + 3) s rb hn hB (pr_term (d := d + 3 * r + 3) s rb hn hB (pr_part1 (d := d + 3 * r + 3) s rb hn hB ho (br := 8 - (r + 1)) (by omega) z))
end P53
